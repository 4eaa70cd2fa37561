theorem tfa_r {B : Int → Int} {n : Int} (hb : bok B n) : tfa B n = -1 ∧ zfa (tre B n 500) = -1 ∧ zC (tre B n 500) ≠ 0 ∧ zS (tre B n 500) ≠ 0 ∨ 0 ≤ tfa B n ∧ tfa B n ≤ 500 := by
  have hn := hb.1
  unfold tfa
  by_cases q : zfa (tre B n 500) = -1
  · rw [if_pos q]
    by_cases r : zC (tre B n 500) = 0 ∨ zS (tre B n 500) = 0
    · rw [if_pos r]
      have := st_r hb (zj (tre B n 500))
      right; omega
    · rw [if_neg r]
      exact Or.inl ⟨rfl, q, fun z => r (Or.inl z), fun z => r (Or.inr z)⟩
  · rw [if_neg q]
    right
    have : ∀ k : Nat, zfa (tre B n k) = -1 ∨ 0 ≤ zfa (tre B n k) ∧ zfa (tre B n k) ≤ 500 := by
      intro k
      induction k with
      | zero => left; rfl
      | succ k ih =>
        show zfa (tli B n (tre B n k)) = -1 ∨ 0 ≤ zfa (tli B n (tre B n k)) ∧ zfa (tli B n (tre B n k)) ≤ 500
        generalize tre B n k = Z at ih
        have sr := st_r hb (zj Z)
        unfold tli
        by_cases q0 : zfa Z ≠ -1 ∨ kdf B n (stf B n (zj Z)) = 0
        · rw [cif_p q0]; exact ih
        rw [cif_n q0]
        by_cases q1 : wdP B n (stf B n (zj Z)) 0 ∧ zC Z < 3
        · rw [cif_p q1]; exact faF_r hb 4
        rw [cif_n q1]
        by_cases q2 : wdP B n (stf B n (zj Z)) 1 ∧ zS Z < 5
        · rw [cif_p q2]; exact faF_r hb 8
        rw [cif_n q2]
        by_cases q3 : wdP B n (stf B n (zj Z)) 2 ∧ zcl Z = -1
        · rw [cif_p q3]; exact faF_r hb 2
        rw [cif_n q3]
        by_cases q4 : wdP B n (stf B n (zj Z)) 3 ∧ zfe Z = -1
        · rw [cif_p q4]; exact faF_r hb 2
        rw [cif_n q4]
        by_cases q5 : wdP B n (stf B n (zj Z)) 4 ∧ zbo Z = -1
        · rw [cif_p q5]; exact faF_r hb 2
        rw [cif_n q5]
        right
        show 0 ≤ stf B n (zj Z) ∧ stf B n (zj Z) ≤ 500
        omega
    rcases this 500 with z | z
    · exact absurd z q
    · exact z
/-- promise 5 -/
theorem q_town {s : mm_M} (hR : Rel s) (post : Int → mm_M → Prop) (hp : ∀ r1 s1, Gd (wp_X11_town 211 s1) r1 → post r1 s1) : wp_X10_town 0 s post := by
  obtain ⟨t, t2⟩ := hR.tx
  have hb := t.2.2
  have tr := tfa_r hb
  intro L37 h37
  rw [show mm_rt 0 2 = 14 from rfl, show mm_rt 0 0 = 7 from rfl, show mm_rt 0 1 = 9 from rfl, show mm_rt 0 5 = 29 from rfl]
  rw [show mm_rt 0 0 = 7 from rfl, show mm_rt 0 1 = 9 from rfl, show mm_rt 0 7 = 198 from rfl] at h37
  refine t_readT t (fun u1 f1 c1 => ?_)
  rw [n32_id (x := tfa (s 8) (s 7 1)) (by omega) (by omega)]
  refine ⟨fun ht => ?_, fun ht => hp _ _ (fun p2 k2 => ?_)⟩
  · obtain ⟨-, zf, zc0, zs0⟩ : tfa (s 8) (s 7 1) = -1 ∧ zfa (tre (s 8) (s 7 1) 500) = -1 ∧ zC (tre (s 8) (s 7 1) 500) ≠ 0 ∧ zS (tre (s 8) (s 7 1) 500) ≠ 0 := by
      rcases tr with q | q
      · exact q
      · omega
    have ok := tre_ok hb 500 zf
    have hc := (c1 ht).2 zf
    have ut := fun (u : mm_M) (t' : tx2 u (s 8) (s 7 1)) (post' : Int → mm_M → Prop) => u_town (u := u) t' ht (post := post')
    generalize tre (s 8) (s 7 1) 500 = Z at *
    obtain ⟨⟨r4, r5, r6, r7, r8⟩, rc, rs, -⟩ := hc
    obtain ⟨o1, o2, o3, o4, o5, o6, o7, o8⟩ := ok
    refine t_takeT (fun u2 a2 b2 c2 d2 => ?_)
    rw [r4, r5, r6, r7, r8] at d2
    refine t_open (C := zC Z) d2.1 o1 (fun u3 a3 b3 c3 d3 e3 => ?_)
    have x3 : ∀ c : Nat, c ≠ 7 → ¬ (9 ≤ c ∧ c ≤ 11) → ¬ (14 ≤ c ∧ c ≤ 18) → ¬ (29 ≤ c ∧ c < 71) → u3 c = s c := fun c h1 h2 h3 h4 => by rw [a3 c h4, a2 c (by omega) (by omega) (by omega), f1.1 c h1 h3]
    have x7 : u3 7 1 = s 7 1 := by rw [a3 7 (by omega), a2 7 (by decide) (by decide) (by decide), f1.2 1 (by omega)]
    have y9 : u3 9 = u2 9 := a3 9 (by omega)
    have y10 : ∀ i : Int, 0 ≤ i → i < 3 * zC Z → u3 10 i = zcf Z i := fun i i1 i2 => by rw [a3 10 (by omega), b2 i i1 (by omega)]; exact rc i i1 i2
    have y11 : ∀ i : Int, 0 ≤ i → i < 6 * zS Z → u3 11 i = zsf Z i := fun i i1 i2 => by rw [a3 11 (by omega), c2 i i1 (by omega)]; exact rs i i1 i2
    have y10' : u3 10 = u2 10 := a3 10 (by omega)
    -- the reference, from the class's end on
    have fin : ∀ w, (∀ c : Nat, c ≠ 7 → c ≠ 198 → w c = u3 c) → w 7 1 = 0 → (∀ i : Int, 0 ≤ i → i < 3 → w 198 i = 0) → Gd (wp_X11_town 211 w) (zC Z) := by
      intro w fw w7 w198 p2 k2
      have ge : ∀ c : Nat, 199 ≤ c → w c = s c := fun c hc => by rw [fw c (by omega) (by omega), x3 c (by omega) (by omega) (by omega) (by omega)]
      have tw : tx2 w (s 8) (s 7 1) := by
        have := t2 s ag.rf
        exact ⟨by rw [ge 211 (by omega)]; exact this.1, by rw [ge 212 (by omega)]; exact this.2.1, this.2.2⟩
      refine ut w tw p2 (fun v g1 g2 g3 g4 g5 g6 g7' g8 g9 g10 => k2 _ _ rfl ?_)
      have lo : ∀ c : Nat, c < 211 → v c = w c := fun c hc => g1 c (by omega) (by omega) (by omega) (by omega) (by omega) (by omega)
      have ls : ∀ c : Nat, c ≠ 7 → c ≠ 198 → ¬ (9 ≤ c ∧ c ≤ 11) → ¬ (14 ≤ c ∧ c ≤ 18) → ¬ (29 ≤ c ∧ c < 71) → c < 211 → v c = s c := fun c h1 h2 h3 h4 h5 h6 => by rw [lo c h6, fw c h1 h2, x3 c h1 h3 h4 h5]
      have v9 : v 9 = u2 9 := by rw [lo 9 (by decide), fw 9 (by decide) (by decide), y9]
      have v10 : ∀ i : Int, 0 ≤ i → i < 3 * zC Z → v 10 i = zcf Z i := fun i i1 i2 => by rw [lo 10 (by decide), fw 10 (by decide) (by decide)]; exact y10 i i1 i2
      have v11 : ∀ i : Int, 0 ≤ i → i < 6 * zS Z → v 11 i = zsf Z i := fun i i1 i2 => by rw [lo 11 (by decide), fw 11 (by decide) (by decide)]; exact y11 i i1 i2
      have sh : ∀ c : Nat, 29 ≤ c → c < 71 → v c = u3 c := fun c h1 h2 => by rw [lo c (by omega), fw c (by omega) (by omega)]
      have hi : ∀ c : Nat, 219 ≤ c → c < 225 → v c = s c := fun c h1 h2 => by rw [g1 c (by omega) (by omega) (by omega) (by omega) (by omega) (by omega), ge c (by omega)]
      have e94 : v 9 4 = zC Z := by rw [v9]; exact d2.1
      have e95 : v 9 5 = zS Z := by rw [v9]; exact d2.2.1
      have e96 : v 9 6 = zcl Z := by rw [v9]; exact d2.2.2.1
      have e97 : v 9 7 = zfe Z := by rw [v9]; exact d2.2.2.2.1
      have e98 : v 9 8 = zbo Z := by rw [v9]; exact d2.2.2.2.2
      refine ⟨?_, ?_, ?_, ?_, ?_, ?_, ?_, by unfold bz; rw [ls 27 (by decide) (by decide) (by decide) (by decide) (by decide) (by decide), hi 221 (by decide) (by decide)]; exact hR.2.2.2.2.2.2.2⟩
      · have z7 : v 7 1 = 0 := by rw [lo 7 (by decide)]; exact w7
        refine ⟨by omega, by omega, by rw [z7]; exact g3.1, fun j a b => by omega⟩
      · unfold r_W
        rw [e94, e95, e96, e97, e98, g3.2.1, g3.2.2.1, g4.1, g4.2.1, g4.2.2]
        refine ⟨o1.1, o1.2, o2.1, o2.2, rfl, rfl, ⟨fun z => absurd z zc0, fun z => absurd z zs0⟩, o4.1, o4.2, ?_, o5.1, o5.2, ?_, o3, ?_, fun j j1 j2 => ?_, fun c c1 c2 => ?_, fun j j1 j2 => ?_, fun c c1 c2 => ?_⟩
        · by_cases q : zfe Z = -1
          · rw [if_pos q, if_pos (by omega)]
          · rw [if_neg q, if_neg (by omega)]
        · by_cases q : zbo Z = -1
          · rw [if_pos q, if_pos (by omega)]
          · rw [if_neg q, if_neg (by omega)]
        · rw [if_neg zc0]
        · rw [v10 j j1 j2]; exact g5 j j1 j2
        · rw [v10 (3 * c) (by omega) (by omega), v10 (3 * c + 1) (by omega) (by omega), v10 (3 * c + 2) (by omega) (by omega)]
          exact o7 c c1 c2
        · rw [v11 j j1 j2]; exact g6 j j1 j2
        · rw [v11 (6 * c) (by omega) (by omega), v11 (6 * c + 1) (by omega) (by omega), v11 (6 * c + 2) (by omega) (by omega), v11 (6 * c + 3) (by omega) (by omega), v11 (6 * c + 4) (by omega) (by omega), v11 (6 * c + 5) (by omega) (by omega)]
          exact o8 c c1 c2
      · refine k_L.rL (s := s) ⟨?_, ?_, ?_, ?_, ?_, ?_, ?_, ?_⟩ hR.2.2.1
        · rw [ls 19 (by decide) (by decide) (by decide) (by decide) (by decide) (by decide)]
        · exact ls 20 (by decide) (by decide) (by decide) (by decide) (by decide) (by decide)
        · exact ls 21 (by decide) (by decide) (by decide) (by decide) (by decide) (by decide)
        · exact ls 22 (by decide) (by decide) (by decide) (by decide) (by decide) (by decide)
        · exact hi 222 (by decide) (by decide)
        · exact hi 223 (by decide) (by decide)
        · exact hi 224 (by decide) (by decide)
        · rw [g2.1, ge 211 (by omega)]
      · intro _
        have re : rep v 29 (v 9 4) (v 9 5) (vo v) := by
          refine ⟨?_, ?_, fun c hc' => ?_, fun p hp' => ?_, fun j j1 j2 => ?_, ?_, fun j j1 j2 => ?_⟩
          · rw [sh 29 (by decide) (by decide), b3.1]; exact g3.2.2.2.1.symm
          · rw [sh 29 (by decide) (by decide), b3.2.1]; exact g3.2.2.2.2.2.symm
          · rw [e94] at hc'
            have q := e3 c hc'
            have gc := g7' c (by omega) (by omega)
            rw [show 29 + 36 + 2 * c = 65 + 2 * c by omega, sh (65 + 2 * c) (by omega) (by omega), q.1, q.2.1, q.2.2]
            refine ⟨gc.2.2.symm, ?_, gc.2.1.symm, fun k k1 k2 => ?_⟩
            · show u2 10 (3 * (c : Int) + 2) = v 225 c
              rw [gc.1, g5 _ (by omega) (by omega), ← y10', y10 _ (by omega) (by omega)]
            · have k2 : k < v 227 c := k2
              rw [gc.2.2] at k2
              omega
          · have gp := g8 p (by omega) (by omega)
            rw [show 29 + 6 + p = 35 + p by omega, sh (35 + p) (by omega) (by omega), d3 p hp']
            exact ⟨gp.symm, fun z => absurd gp z⟩
          · rw [e95] at j2
            rw [show 29 + 3 = 32 from rfl, sh 32 (by decide) (by decide), c3 j j1 (by omega)]
            exact (g9 j j1 (by omega)).symm
          · rw [show 29 + 4 = 33 from rfl, sh 33 (by decide) (by decide), b3.2.2]
            exact g3.2.2.2.2.1.symm
          · have j2 : j < 5 * v 211 35 := j2
            rw [g3.2.2.2.2.1] at j2
            omega
        have m0 : ∀ c : Int, 0 ≤ c → c < v 9 4 → v 227 c = 0 := fun c c1 c2 => (g7' c c1 (by rw [e94] at c2; omega)).2.2
        have wf0 : wf (v 9 4) (v 9 5) (vo v) := by
          refine ⟨?_, ?_, fun c c1 c2 => ?_, fun c c1 c2 => ?_, fun c c1 c2 => ?_, fun c k c1 c2 k1 k2 => ?_, fun c k k' c1 c2 k1 k2 => ?_, fun p p1 p2 => ?_, fun p p1 p2 q => ?_, fun p p1 p2 q => ?_, fun c c1 c2 => ?_, ?_⟩
          · show 0 ≤ v 211 28 ∧ v 211 28 ≤ 240
            rw [g3.2.2.2.1]; omega
          · show 0 ≤ v 211 37 ∧ v 211 37 < 2147483648
            rw [g3.2.2.2.2.2]; omega
          · show 0 ≤ v 227 c ∧ v 227 c ≤ 30
            rw [m0 c c1 c2]; omega
          · show 0 ≤ v 225 c ∧ v 225 c ≤ 99
            rw [e94] at c2
            rw [(g7' c c1 (by omega)).1, g5 _ (by omega) (by omega)]
            have := o7 c c1 c2
            omega
          · show 0 ≤ v 226 c ∧ v 226 c ≤ 249
            rw [(g7' c c1 (by rw [e94] at c2; omega)).2.1]; omega
          · have k2 : k < v 227 c := k2
            rw [m0 c c1 c2] at k2; omega
          · have k2 : k < v 227 c := k2
            rw [m0 c c1 c2] at k2; omega
          · show -1 ≤ v 229 (7 * p + 2) ∧ v 229 (7 * p + 2) ≤ 2
            rw [g8 p p1 p2]; omega
          · have q : v 229 (7 * p + 2) = 0 := q
            rw [g8 p p1 p2] at q; omega
          · exact absurd (g8 p p1 p2) q
          · show 0 ≤ v 230 (7 * c + 5) ∧ v 230 (7 * c + 5) ≤ 240
            rw [e95] at c2
            rw [g9 _ (by omega) (by omega)]; omega
          · show 0 ≤ v 211 35 ∧ v 211 35 ≤ 20
            rw [g3.2.2.2.2.1]; omega
        exact rs_of re wf0
      · intro k hk
        have q1 : v 198 k = 0 := by rw [lo 198 (by decide)]; exact w198 k (by omega) (by omega)
        have q2 : v 234 k = 0 := g10 k (by omega) (by omega)
        rw [q1, q2]
        exact ⟨Or.inl rfl, rfl, fun z => by omega⟩
      · unfold r_C
        rw [ls 199 (by decide) (by decide) (by decide) (by decide) (by decide) (by decide), ls 200 (by decide) (by decide) (by decide) (by decide) (by decide) (by decide), ls 201 (by decide) (by decide) (by decide) (by decide) (by decide) (by decide), g2.2, g1 232 (by decide) (by decide) (by decide) (by decide) (by decide) (by decide), g1 233 (by decide) (by decide) (by decide) (by decide) (by decide) (by decide), ge 211 (by omega), ge 232 (by omega), ge 233 (by omega)]
        exact hR.2.2.2.2.2.1
      · intro z
        rw [e94] at z
        exact absurd z zc0
    have loop : ∀ d x : Nat, x + d = 3 → ∀ w, (∀ c : Nat, c ≠ 198 → w c = u3 c) → (∀ i : Int, 0 ≤ i → i < x → w 198 i = 0) → L37 x w := by
      intro d
      induction d with
      | zero =>
        intro x hx w fw w198
        have : x = 3 := by omega
        subst this
        apply h37
        refine ⟨fun _ => ?_, fun z => absurd (by decide) z⟩
        unfold wp_X8_shorten
        have w7 : w 7 1 = s 7 1 := by rw [fw 7 (by decide)]; exact x7
        have hn := hb.1
        rw [w7, n32_id (x := s 7 1) (by omega) (by omega), m_0]
        refine ⟨fun z => absurd z (by decide), fun _ => ⟨fun _ s1 e1 => ?_, fun z => absurd hn.1 z⟩⟩
        have e9 : s1 9 4 = zC Z := by rw [e1, up_c (by decide), fw 9 (by decide), y9]; exact d2.1
        show post (s1 9 4) s1
        rw [e9]
        exact hp _ _ (fin s1 (fun c a b => by rw [e1, up_c a]; exact fw c b) (by rw [e1, up_e]) (fun i i1 i2 => by rw [e1, up_c (by decide)]; exact w198 i i1 i2))
      | succ d ih =>
        intro x hx w fw w198
        apply h37
        rw [n32_id (x := (x : Int)) (by omega) (by omega)]
        refine ⟨fun z => by omega, fun _ => ⟨⟨by omega, by omega⟩, fun s10 e10 v ev => ?_⟩⟩
        rw [ev, show (x : Int) + 1 = ((x + 1 : Nat) : Int) by omega]
        refine ih (x + 1) (by omega) s10 (fun c a => by rw [e10, up_c a]; exact fw c a) (fun i i1 i2 => ?_)
        rw [e10]
        by_cases q : i = x
        · rw [q, up_e]
        · rw [up_n (Or.inr q)]; exact w198 i i1 (by omega)
    exact loop 3 0 (by omega) u3 (fun _ _ => rfl) (fun i i1 i2 => by omega)
  · intro M28 M54 M100 M124 M158 M201 M227 M258 m28 m54 m100 m124 m158 m201 m227 m258
    refine u_readT (t2 u1 f1.ag) (fun u2 f2 _ => ?_)
    rw [n32_id (x := tfa (s 8) (s 7 1)) (by omega) (by omega)]
    exact ⟨fun z => absurd z ht, fun _ => k2 _ _ rfl (hR.fr (f1.ag.tr f2.ag))⟩
