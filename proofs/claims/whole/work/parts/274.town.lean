def rdv (f : Int → Int) (b : Int) (v : Nat → Int) : Nat → Int → Int
  | 0 => f
  | k + 1 => fu (rdv f b v k) (b + k) (v k)
theorem rdv_g {f g : Int → Int} {b : Int} {v : Nat → Int} (h : ∀ i, 0 ≤ i → i < b → f i = g i) : ∀ (m : Nat) (i : Int), 0 ≤ i → i < b + m → rdv f b v m i = rdv g b v m i := by
  intro m
  induction m with
  | zero => intro i a c; exact h i a (by omega)
  | succ m ih =>
    intro i a c
    rw [rdv, rdv]
    by_cases q : i = b + m
    · rw [q, fu_e, fu_e]
    · rw [fu_n q, fu_n q]; exact ih i a (by omega)
def cT (u : mm_M) (B : Int → Int) (n : Int) (Z : Tw) : Prop := hnd u B n (zj Z) (zfa Z) ∧ (zfa Z = -1 → (u 14 4 = zC Z ∧ u 14 5 = zS Z ∧ u 14 6 = zcl Z ∧ u 14 7 = zfe Z ∧ u 14 8 = zbo Z) ∧ (∀ i : Int, 0 ≤ i → i < 3 * zC Z → u 15 i = zcf Z i) ∧ (∀ i : Int, 0 ≤ i → i < 6 * zS Z → u 16 i = zsf Z i) ∧ ∀ i : Int, 0 ≤ i → i < zS Z → u 17 i = znf Z i ∧ u 18 i = enf B n (znf Z i))
def f14 (s u : mm_M) : Prop := (∀ c : Nat, c ≠ 7 → ¬ (14 ≤ c ∧ c ≤ 18) → u c = s c) ∧ ∀ i : Int, i < 2 ∨ 6 < i → u 7 i = s 7 i
theorem f14.tr {s t u : mm_M} (h : f14 s t) (g : f14 t u) : f14 s u := ⟨fun c a b => (g.1 c a b).trans (h.1 c a b), fun i a => (g.2 i a).trans (h.2 i a)⟩
theorem f14.rf {s : mm_M} : f14 s s := ⟨fun _ _ _ => rfl, fun _ _ => rfl⟩
theorem f14.ag {s u : mm_M} (h : f14 s u) : ag s u := fun a j q => by
  by_cases z : a = 7
  · rw [z] at q ⊢
    by_cases y : j < 2 ∨ 6 < j
    · exact h.2 j y
    · have h2 : decide (2 ≤ j) = true := decide_eq_true (by omega)
      have : scr 7 j = true := by
        unfold scr
        rw [h2]
        simp
      rw [this] at q
      cases q
  · by_cases w : 14 ≤ a ∧ a ≤ 18
    · have h2 : decide (12 ≤ a ∧ a ≤ 18) = true := decide_eq_true (by omega)
      have : scr a j = true := by
        unfold scr
        rw [h2]
        simp
      rw [this] at q
      cases q
    · rw [h.1 a z w]
theorem w_ne : ∀ a : Nat, a < 5 → ∀ b : Nat, b < 5 → a ≠ b → mm_sl a ≠ mm_sl b ∨ mm_byt a 0 ≠ mm_byt b 0 := by decide +kernel
theorem wd_u {B : Int → Int} {n p : Int} {a b : Nat} (ha : a < 5) (hb : b < 5) (h1 : wdP B n p a) (h2 : wdP B n p b) : a = b := by
  by_cases z : a = b
  · exact z
  · exfalso
    have wa := w_ok a (by have : mm_nS = 35 := rfl; omega)
    have wb := w_ok b (by have : mm_nS = 35 := rfl; omega)
    have e1 := h1.2.1
    have e2 := h2.2.1
    rcases w_ne a ha b hb z with q | q
    · omega
    · have c1 := h1.2.2 0 wa.2.1
      have c2 := h2.2.2 0 wb.2.1
      omega
set_option maxHeartbeats 4000000 in
theorem t_part {u : mm_M} {B : Int → Int} {n : Int} {Z : Tw} (h : cT u B n Z) (z1 : zfa Z = -1) (zk : kdf B n (stf B n (zj Z)) ≠ 0) (ok : zok B n Z) {post : mm_M → Prop} (k : ∀ u', cT u' B n (tli B n Z) → f14 u u' → post u') : wp_X9_readPart 14 7 u post := by
  obtain ⟨hh, hr⟩ := h
  obtain ⟨⟨r4, r5, r6, r7, r8⟩, rc, rs, rn⟩ := hr z1
  obtain ⟨o1, o2, o3, o4, o5, o6, o7, o8⟩ := ok
  have hb := hh.1.2.2
  have sr := st_r hb (zj Z)
  have tk := hh.2.2.1 z1
  rw [z1] at hh
  have tx := hh.1
  have n0 : ¬ (zfa Z ≠ -1 ∨ kdf B n (stf B n (zj Z)) = 0) := fun y => by rcases y with y | y; exact y z1; exact zk y
  intro L25 L50 L83 L114 L145 h25 h50 h83 h114 h145
  have l145 : ¬ (wdP B n (stf B n (zj Z)) 0 ∧ zC Z < 3) → ¬ (wdP B n (stf B n (zj Z)) 1 ∧ zS Z < 5) → ¬ (wdP B n (stf B n (zj Z)) 2 ∧ zcl Z = -1) → ¬ (wdP B n (stf B n (zj Z)) 3 ∧ zfe Z = -1) → ¬ (wdP B n (stf B n (zj Z)) 4 ∧ zbo Z = -1) → L145 u := by
    intro q1 q2 q3 q4 q5
    apply h145
    refine t_ref hh (fun u' g hu => k u' ?_ ⟨fun c a _ => g.1 c a, g.2⟩)
    have e : tli B n Z = (zj Z, zC Z, zS Z, zcl Z, zfe Z, zbo Z, stf B n (zj Z), zcf Z, zsf Z, znf Z) := by
      unfold tli
      rw [cif_n n0, cif_n q1, cif_n q2, cif_n q3, cif_n q4, cif_n q5]
    rw [e]
    refine ⟨?_, fun y => ?_⟩
    · have := hu (zj Z)
      rw [if_pos rfl] at this
      exact this
    · have y : stf B n (zj Z) = -1 := y
      omega
  have l114 : ¬ (wdP B n (stf B n (zj Z)) 0 ∧ zC Z < 3) → ¬ (wdP B n (stf B n (zj Z)) 1 ∧ zS Z < 5) → ¬ (wdP B n (stf B n (zj Z)) 2 ∧ zcl Z = -1) → ¬ (wdP B n (stf B n (zj Z)) 3 ∧ zfe Z = -1) → L114 u := by
    intro q1 q2 q3 q4
    apply h114
    refine t_word (by decide) tx ⟨sr.1, sr.2.1⟩ tk (fun w => ⟨fun y => absurd y (by decide), fun _ => ?_⟩) (fun w => ⟨fun _ => l145 q1 q2 q3 q4 (fun y => w y.1), fun y => absurd m_0 y⟩)
    rw [r8, n32_id (x := zbo Z) (by omega) (by omega)]
    refine ⟨fun y => l145 q1 q2 q3 q4 (fun x => y x.2), fun y => t_once (by omega) hh (fun u' r g hu hv s23 e23 => k s23 ?_ ⟨fun c a b => by rw [e23, up_c (by omega)]; exact g.1 c a, fun i a => by rw [e23, up_c (by decide)]; exact g.2 i a⟩)⟩
    have e : tli B n Z = (zj Z + 3, zC Z, zS Z, zcl Z, zfe Z, nmf B n (stf B n (zj Z + 1 + 0)), faF B n (Po B n 0 9 (zj Z)) (zj Z + 1) 2, zcf Z, zsf Z, znf Z) := by
      unfold tli
      rw [cif_n n0, cif_n q1, cif_n q2, cif_n q3, cif_n q4, cif_p ⟨w, y⟩]
    rw [e]
    refine ⟨hu.c (by rw [e23, up_c (by decide)]) (by rw [e23, up_c (by decide)]), fun x => ?_⟩
    have x : faF B n (Po B n 0 9 (zj Z)) (zj Z + 1) 2 = -1 := x
    have oth : ∀ c : Nat, c ≠ 7 → c ≠ 14 → s23 c = u c := fun c a b => by rw [e23, up_c b]; exact g.1 c a
    have o14 : ∀ i : Int, i ≠ 8 → s23 14 i = u 14 i := fun i a => by rw [e23, up_n (by omega), g.1 14 (by decide)]
    refine ⟨⟨by rw [o14 4 (by decide)]; exact r4, by rw [o14 5 (by decide)]; exact r5, by rw [o14 6 (by decide)]; exact r6, by rw [o14 7 (by decide)]; exact r7, by rw [e23, up_e]; exact hv x⟩, ?_, ?_, ?_⟩
    · rw [oth 15 (by decide) (by decide)]; exact rc
    · rw [oth 16 (by decide) (by decide)]; exact rs
    · rw [oth 17 (by decide) (by decide), oth 18 (by decide) (by decide)]; exact rn
  have l83 : ¬ (wdP B n (stf B n (zj Z)) 0 ∧ zC Z < 3) → ¬ (wdP B n (stf B n (zj Z)) 1 ∧ zS Z < 5) → ¬ (wdP B n (stf B n (zj Z)) 2 ∧ zcl Z = -1) → L83 u := by
    intro q1 q2 q3
    apply h83
    refine t_word (by decide) tx ⟨sr.1, sr.2.1⟩ tk (fun w => ⟨fun y => absurd y (by decide), fun _ => ?_⟩) (fun w => ⟨fun _ => l114 q1 q2 q3 (fun y => w y.1), fun y => absurd m_0 y⟩)
    rw [r7, n32_id (x := zfe Z) (by omega) (by omega)]
    refine ⟨fun y => l114 q1 q2 q3 (fun x => y x.2), fun y => t_once (by omega) hh (fun u' r g hu hv s23 e23 => k s23 ?_ ⟨fun c a b => by rw [e23, up_c (by omega)]; exact g.1 c a, fun i a => by rw [e23, up_c (by decide)]; exact g.2 i a⟩)⟩
    have e : tli B n Z = (zj Z + 3, zC Z, zS Z, zcl Z, nmf B n (stf B n (zj Z + 1 + 0)), zbo Z, faF B n (Po B n 0 99 (zj Z)) (zj Z + 1) 2, zcf Z, zsf Z, znf Z) := by
      unfold tli
      rw [cif_n n0, cif_n q1, cif_n q2, cif_n q3, cif_p ⟨w, y⟩]
    rw [e]
    refine ⟨hu.c (by rw [e23, up_c (by decide)]) (by rw [e23, up_c (by decide)]), fun x => ?_⟩
    have x : faF B n (Po B n 0 99 (zj Z)) (zj Z + 1) 2 = -1 := x
    have oth : ∀ c : Nat, c ≠ 7 → c ≠ 14 → s23 c = u c := fun c a b => by rw [e23, up_c b]; exact g.1 c a
    have o14 : ∀ i : Int, i ≠ 7 → s23 14 i = u 14 i := fun i a => by rw [e23, up_n (by omega), g.1 14 (by decide)]
    refine ⟨⟨by rw [o14 4 (by decide)]; exact r4, by rw [o14 5 (by decide)]; exact r5, by rw [o14 6 (by decide)]; exact r6, by rw [e23, up_e]; exact hv x, by rw [o14 8 (by decide)]; exact r8⟩, ?_, ?_, ?_⟩
    · rw [oth 15 (by decide) (by decide)]; exact rc
    · rw [oth 16 (by decide) (by decide)]; exact rs
    · rw [oth 17 (by decide) (by decide), oth 18 (by decide) (by decide)]; exact rn
  have l50 : ¬ (wdP B n (stf B n (zj Z)) 0 ∧ zC Z < 3) → ¬ (wdP B n (stf B n (zj Z)) 1 ∧ zS Z < 5) → L50 u := by
    intro q1 q2
    apply h50
    refine t_word (by decide) tx ⟨sr.1, sr.2.1⟩ tk (fun w => ⟨fun y => absurd y (by decide), fun _ => ?_⟩) (fun w => ⟨fun _ => l83 q1 q2 (fun y => w y.1), fun y => absurd m_0 y⟩)
    rw [r6, n32_id (x := zcl Z) (by omega) (by omega)]
    refine ⟨fun y => l83 q1 q2 (fun x => y x.2), fun y => t_once (by omega) hh (fun u' r g hu hv s23 e23 => k s23 ?_ ⟨fun c a b => by rw [e23, up_c (by omega)]; exact g.1 c a, fun i a => by rw [e23, up_c (by decide)]; exact g.2 i a⟩)⟩
    have e : tli B n Z = (zj Z + 3, zC Z, zS Z, nmf B n (stf B n (zj Z + 1 + 0)), zfe Z, zbo Z, faF B n (Po B n 10 240 (zj Z)) (zj Z + 1) 2, zcf Z, zsf Z, znf Z) := by
      unfold tli
      rw [cif_n n0, cif_n q1, cif_n q2, cif_p ⟨w, y⟩]
    rw [e]
    refine ⟨hu.c (by rw [e23, up_c (by decide)]) (by rw [e23, up_c (by decide)]), fun x => ?_⟩
    have x : faF B n (Po B n 10 240 (zj Z)) (zj Z + 1) 2 = -1 := x
    have oth : ∀ c : Nat, c ≠ 7 → c ≠ 14 → s23 c = u c := fun c a b => by rw [e23, up_c b]; exact g.1 c a
    have o14 : ∀ i : Int, i ≠ 6 → s23 14 i = u 14 i := fun i a => by rw [e23, up_n (by omega), g.1 14 (by decide)]
    refine ⟨⟨by rw [o14 4 (by decide)]; exact r4, by rw [o14 5 (by decide)]; exact r5, by rw [e23, up_e]; exact hv x, by rw [o14 7 (by decide)]; exact r7, by rw [o14 8 (by decide)]; exact r8⟩, ?_, ?_, ?_⟩
    · rw [oth 15 (by decide) (by decide)]; exact rc
    · rw [oth 16 (by decide) (by decide)]; exact rs
    · rw [oth 17 (by decide) (by decide), oth 18 (by decide) (by decide)]; exact rn
  have l25 : ¬ (wdP B n (stf B n (zj Z)) 0 ∧ zC Z < 3) → L25 u := by
    intro q1
    apply h25
    refine t_word (by decide) tx ⟨sr.1, sr.2.1⟩ tk (fun w => ⟨fun y => absurd y (by decide), fun _ => ?_⟩) (fun w => ⟨fun _ => l50 q1 (fun y => w y.1), fun y => absurd m_0 y⟩)
    rw [r5, n32_id (x := zS Z) (by omega) (by omega)]
    refine ⟨fun y => l50 q1 (fun x => by omega), fun y => ?_⟩
    have e : tli B n Z = (zj Z + 9, zC Z, zS Z + 1, zcl Z, zfe Z, zbo Z, faF B n (Ps B n (zS Z) (znf Z) (zj Z)) (zj Z + 1) 8, zcf Z, lnS B n Z, fu (znf Z) (zS Z) (stf B n (zj Z + 1))) := by
      unfold tli
      rw [cif_n n0, cif_n q1, cif_p ⟨w, by omega⟩]
    refine t_sort hh r5 ⟨o2.1, by omega⟩ o6 rn (fun u' fo o7' hu o14 hv => k u' ?_ ⟨fun c a b => fo c a (by omega) (by omega) (by omega) (by omega), o7'⟩)
    rw [e]
    refine ⟨hu, fun x => ?_⟩
    have x : faF B n (Ps B n (zS Z) (znf Z) (zj Z)) (zj Z + 1) 8 = -1 := x
    obtain ⟨v5, v17, v18, v16⟩ := hv x
    refine ⟨⟨by rw [o14 4 (by decide)]; exact r4, v5, by rw [o14 6 (by decide)]; exact r6, by rw [o14 7 (by decide)]; exact r7, by rw [o14 8 (by decide)]; exact r8⟩, ?_, fun i a b => ?_, fun i a b => ?_⟩
    · rw [fo 15 (by decide) (by decide) (by decide) (by decide) (by decide)]; exact rc
    · have b : i < 6 * (zS Z + 1) := b
      rw [v16]
      exact rdv_g (f := u 16) (g := zsf Z) (b := 6 * zS Z) (v := fun k => nmf B n (stf B n (zj Z + 1 + 1 + k))) (fun i a b => rs i a b) 6 i a (by omega)
    · have b : i < zS Z + 1 := b
      rw [v17, v18]
      show fu (u 17) (zS Z) (stf B n (zj Z + 1)) i = fu (znf Z) (zS Z) (stf B n (zj Z + 1)) i ∧ fu (u 18) (zS Z) (enf B n (stf B n (zj Z + 1))) i = enf B n (fu (znf Z) (zS Z) (stf B n (zj Z + 1)) i)
      by_cases q : i = zS Z
      · rw [q, fu_e, fu_e, fu_e]; exact ⟨rfl, rfl⟩
      · rw [fu_n q, fu_n q, fu_n q]; exact rn i a (by omega)
  refine t_word (by decide) tx ⟨sr.1, sr.2.1⟩ tk (fun w => ⟨fun y => absurd y (by decide), fun _ => ?_⟩) (fun w => ⟨fun _ => l25 (fun y => w y.1), fun y => absurd m_0 y⟩)
  rw [r4, n32_id (x := zC Z) (by omega) (by omega)]
  refine ⟨fun y => l25 (fun x => by omega), fun y => ?_⟩
  have e : tli B n Z = (zj Z + 5, zC Z + 1, zS Z, zcl Z, zfe Z, zbo Z, faF B n (Pc B n (zj Z)) (zj Z + 1) 4, lnC B n Z, zsf Z, znf Z) := by
    unfold tli
    rw [cif_n n0, cif_p ⟨w, by omega⟩]
  refine t_counter hh r4 ⟨o1.1, by omega⟩ (fun u' fo o7' hu o14 hv => k u' ?_ ⟨fun c a b => fo c a (by omega) (by omega), o7'⟩)
  rw [e]
  refine ⟨hu, fun x => ?_⟩
  have x : faF B n (Pc B n (zj Z)) (zj Z + 1) 4 = -1 := x
  obtain ⟨v4, v15⟩ := hv x
  refine ⟨⟨v4, by rw [o14 5 (by decide)]; exact r5, by rw [o14 6 (by decide)]; exact r6, by rw [o14 7 (by decide)]; exact r7, by rw [o14 8 (by decide)]; exact r8⟩, fun i a b => ?_, ?_, ?_⟩
  · have b : i < 3 * (zC Z + 1) := b
    rw [v15]
    exact rdv_g (f := u 15) (g := zcf Z) (b := 3 * zC Z) (v := fun k => nmf B n (stf B n (zj Z + 1 + k))) (fun i a b => rc i a b) 3 i a (by omega)
  · rw [fo 16 (by decide) (by decide) (by decide)]; exact rs
  · rw [fo 17 (by decide) (by decide) (by decide), fo 18 (by decide) (by decide) (by decide)]; exact rn
theorem tre_ok {B : Int → Int} {n : Int} (hb : bok B n) : ∀ k : Nat, zfa (tre B n k) = -1 → zok B n (tre B n k) := by
  intro k
  induction k with
  | zero =>
    intro _
    refine ⟨⟨Int.le_refl 0, (show (0 : Int) ≤ 3 by decide)⟩, ⟨Int.le_refl 0, (show (0 : Int) ≤ 5 by decide)⟩, Or.inl rfl, ⟨Int.le_refl _, (show (-1 : Int) ≤ 99 by decide)⟩, ⟨Int.le_refl _, (show (-1 : Int) ≤ 9 by decide)⟩, fun i a b => ?_, fun i a b => ?_, fun i a b => ?_⟩
    · have b : i < 0 := b
      omega
    · have b : i < 0 := b
      omega
    · have b : i < 0 := b
      omega
  | succ k ih => exact tli_ok hb ih
theorem tre_stop {B : Int → Int} {n : Int} {k : Nat} (h : zfa (tre B n k) ≠ -1 ∨ kdf B n (stf B n (zj (tre B n k))) = 0) : ∀ d : Nat, tre B n (k + d) = tre B n k := by
  intro d
  induction d with
  | zero => rfl
  | succ d ih =>
    rw [show k + (d + 1) = (k + d) + 1 by omega, tre, ih]
    unfold tli
    rw [cif_p h]
/-- the fault of a text read as a town -/
noncomputable def tfa (B : Int → Int) (n : Int) : Int := if zfa (tre B n 500) = -1 then (if zC (tre B n 500) = 0 ∨ zS (tre B n 500) = 0 then stf B n (zj (tre B n 500)) else -1) else zfa (tre B n 500)
theorem t_readT {u : mm_M} {B : Int → Int} {n : Int} (t : tx u B n) {post : Int → mm_M → Prop} (k : ∀ u', f14 u u' → (tfa B n = -1 → cT u' B n (tre B n 500)) → post (tfa B n) u') : wp_X9_read 14 7 u post := by
  have hb := t.2.2
  have hn := hb.1
  intro L31 L56 L70 h31 h56 h70 s1 e1 s2 e2 s3 e3 s4 e4 s5 e5
  have o5 : ∀ c : Nat, c ≠ 14 → s5 c = u c := fun c hc => by rw [e5, up_c hc, e4, up_c hc, e3, up_c hc, e2, up_c hc, e1, up_c hc]
  have t5 : tx s5 B n := ⟨by rw [o5 8 (by decide)]; exact t.1, by rw [o5 7 (by decide)]; exact t.2.1, hb⟩
  -- behind the last line
  have last : ∀ w, f14 u w → cT w B n (tre B n 500) → L56 w := by
    intro w fw cw
    have sr := st_r hb (zj (tre B n 500))
    have fin : ∀ w', g7 w w' → w' 7 6 = tfa B n → (tfa B n = -1 → cT w' B n (tre B n 500)) → post (w' 7 6) w' := by
      intro w' g e c
      rw [e]
      exact k w' (fw.tr ⟨fun c a _ => g.1 c a, g.2⟩) c
    have l70 : (zfa (tre B n 500) = -1 → zC (tre B n 500) = 0 ∨ zS (tre B n 500) = 0) → L70 w := by
      intro z
      apply h70
      refine t_ref cw.1 (fun w' g hw => fin w' g ?_ (fun y => ?_))
      · rw [(hw 0).2.1]
        unfold tfa
        by_cases q : zfa (tre B n 500) = -1
        · rw [if_pos q, if_pos q, if_pos (z q)]
        · rw [if_neg q, if_neg q]
      · unfold tfa at y
        by_cases q : zfa (tre B n 500) = -1
        · rw [if_pos q, if_pos (z q)] at y; omega
        · rw [if_neg q] at y; exact absurd y q
    apply h56
    by_cases q : zfa (tre B n 500) = -1
    · have ok := tre_ok hb 500 q
      obtain ⟨⟨r4, r5, -⟩, -⟩ := cw.2 q
      rw [r4, r5, n32_id (x := zC (tre B n 500)) (by have := ok.1; omega) (by have := ok.1; omega), n32_id (x := zS (tre B n 500)) (by have := ok.2.1; omega) (by have := ok.2.1; omega)]
      refine ⟨fun z => l70 (fun _ => Or.inl z), fun z => ⟨fun y => fin w g7.rf ?_ (fun _ => cw), fun y => l70 (fun _ => Or.inr y)⟩⟩
      rw [cw.1.2.1]
      unfold tfa
      rw [if_pos q, if_neg (fun x => by rcases x with x | x; exact z x; exact y x), q]
    · have no : ∀ x : Prop, zfa (tre B n 500) = -1 → x := fun x y => absurd y q
      refine ⟨fun _ => l70 (no _), fun _ => ⟨fun _ => fin w g7.rf ?_ (fun y => ?_), fun _ => l70 (no _)⟩⟩
      · rw [cw.1.2.1]
        unfold tfa
        rw [if_neg q]
      · unfold tfa at y
        rw [if_neg q] at y
        exact absurd y q
  refine t_hbeg t5 (fun s6 g6 h6 => ?_)
  have key : ∀ d x : Nat, x + d = 500 → ∀ w, f14 u w → cT w B n (tre B n x) → L31 x w := by
    intro d
    induction d with
    | zero =>
      intro x hx w fw cw
      have : x = 500 := by omega
      subst this
      apply h31
      exact ⟨fun _ => last w fw cw, fun z => absurd (by decide) z⟩
    | succ d ih =>
      intro x hx w fw cw
      have fr := cw.1.2.2.2
      apply h31
      rw [n32_id (x := (x : Int)) (by omega) (by omega)]
      refine ⟨fun z => by omega, fun _ => ?_⟩
      unfold wp_X8_goesOn
      rw [cw.1.2.1, n32_id (x := zfa (tre B n x)) (by omega) (by omega)]
      have stop : (zfa (tre B n x) ≠ -1 ∨ kdf B n (stf B n (zj (tre B n x))) = 0) → L56 w := by
        intro z
        have e := tre_stop z (500 - x)
        rw [show x + (500 - x) = 500 by omega] at e
        exact last w fw (by rw [e]; exact cw)
      refine ⟨fun z => ⟨fun _ => stop (Or.inl z), fun y => absurd m_0 y⟩, fun z => ?_⟩
      have kr := kd_r (B := B) (n := n) (p := stf B n (zj (tre B n x)))
      rw [(cw.1.2.2.1 z).2.2.1, n32_id (x := kdf B n (stf B n (zj (tre B n x)))) (by omega) (by omega)]
      refine ⟨fun y => ⟨fun _ => stop (Or.inr y), fun y => absurd m_0 y⟩, fun y => ⟨fun q => absurd q (by decide), fun _ => ?_⟩⟩
      refine t_part cw z y (tre_ok hb x z) (fun w' cw' f' v ev => ?_)
      rw [ev, show (x : Int) + 1 = ((x + 1 : Nat) : Int) by omega]
      exact ih (x + 1) (by omega) w' (fw.tr f') cw'
  have z14 : ∀ i : Int, s6 14 i = s5 14 i := fun i => by rw [g6.1 14 (by decide)]
  refine key 500 0 (by omega) s6 ⟨fun c a b => by rw [g6.1 c a, o5 c (by omega)], fun i a => by rw [g6.2 i a, o5 7 (by decide)]⟩ ⟨h6, fun _ => ⟨⟨?_, ?_, ?_, ?_, ?_⟩, fun i a b => ?_, fun i a b => ?_, fun i a b => ?_⟩⟩
  · rw [z14, e5, up_n (by decide), e4, up_n (by decide), e3, up_n (by decide), e2, up_n (by decide), e1, up_e]; rfl
  · rw [z14, e5, up_n (by decide), e4, up_n (by decide), e3, up_n (by decide), e2, up_e]; rfl
  · rw [z14, e5, up_n (by decide), e4, up_n (by decide), e3, up_e]; rfl
  · rw [z14, e5, up_n (by decide), e4, up_e]; rfl
  · rw [z14, e5, up_e]; rfl
  · have b : i < 0 := b
    omega
  · have b : i < 0 := b
    omega
  · have b : i < 0 := b
    omega
