theorem Rel.gz {s s' : mm_M} (hR : Rel s) (T : k_T s s' ∨ r_T s') (Wn : k_W s s') (L : k_L s s' ∨ r_L s') (A : k_A s s' ∨ (0 < s 9 4 ∧ r_A s')) (J : k_I s s' ∨ r_I s') (C : k_C s s' ∨ r_C s') (Z : bz s') : Rel s' := by
  obtain ⟨hT, hW, hL, hA, hI, hC, h0, hz⟩ := hR
  obtain ⟨w1, w2, w3, w4, w5, w6, w7, w8, w9, w10⟩ := Wn
  have hC3 := hW.2.1
  refine ⟨?_, ?_, ?_, ?_, ?_, ?_, ?_, Z⟩
  · rcases T with ⟨a1, a2, a3, a4⟩ | h
    · unfold r_T; rw [a1, a2, a3, a4]; exact hT
    · exact h
  · unfold r_W; rw [w1, w2, w3, w4, w5, w6, w7, w8, w9, w10]; exact hW
  · rcases L with ⟨a1, a2, a3, a4, a5, a6, a7, a8⟩ | h
    · unfold r_L; rw [a1, a2, a3, a4, a5, a6, a7, a8]; exact hL
    · exact h
  · intro hq
    rcases A with ⟨a1, a2, a3, a4, a5⟩ | h
    · rw [w1] at hq
      exact (hA hq).fr hC3 (by rw [w1]) (by rw [w1]) a3 a5 a4 a1 a2
    · exact h.2
  · rcases J with ⟨a1, a2, a3, a4⟩ | h
    · intro k hk
      have h := hI k hk
      rw [a1 198 (by omega) (by omega), a2, w1]
      exact ⟨h.1, h.2.1, fun q => ⟨(h.2.2 q).1, (h.2.2 q).2.fr hk hC3 (by rw [w1]) (by rw [w1]) a3 a4 (fun a h1 h2 => a1 a h1 (by omega))⟩⟩
    · exact h
  · rcases C with ⟨a1, a2, a3, a4, a5, a6⟩ | h
    · unfold r_C; rw [a1, a2, a3, a4, a5, a6]; exact hC
    · exact h
  · intro hq
    rw [w1] at hq
    rcases A with ⟨a1, a2, a3, a4, a5⟩ | h
    · obtain ⟨b1, b2, b3, b4, b5⟩ := h0 hq
      exact ⟨by rw [a1 29 (by omega) (by omega)]; exact b1, by rw [a3]; exact b2, by rw [a1 33 (by omega) (by omega)]; exact b3, by rw [a4]; exact b4, fun p hp => by rw [a1 (35 + p) (by omega) (by omega)]; exact b5 p hp⟩
    · omega
theorem kq {s u1 u2 : mm_M} (f : fK s u1) (q : fQ u1 u2) : (∀ c : Nat, c ≠ 7 → ¬ (24 ≤ c ∧ c ≤ 27) → c ≠ 211 → ¬ (219 ≤ c ∧ c ≤ 221) → c ≠ 237 → c ≠ 238 → u2 c = s c) ∧ (∀ i : Int, i ≠ 2 → i ≠ 3 → i ≠ 4 → i ≠ 5 → i ≠ 19 → i ≠ 20 → i ≠ 44 → i ≠ 46 → u2 211 i = s 211 i) ∧ (∀ i : Int, i < 2 ∨ 6 < i → u2 7 i = s 7 i) ∧ (bz s → bz u2) := by
  refine ⟨fun c a b d e x y => by rw [q.1 c d (by omega) (by omega) (by omega) x y]; exact f.1 c a b, fun i a b c d e x y z => by rw [q.2.1 i a b c d e x y z, f.1 211 (by decide) (by decide)], fun i a => by rw [q.1 7 (by decide) (by decide) (by decide) (by decide) (by decide) (by decide)]; exact f.2.1 i a, fun z i i1 i2 => ?_⟩
  have h := z i i1 i2
  have a := f.2.2 i
  have b := q.2.2 i
  rw [f.1 221 (by decide) (by decide)] at b
  rw [q.1 27 (by decide) (by decide) (by decide) (by decide) (by decide) (by decide)]
  omega
theorem Rel.kq {s u1 u2 : mm_M} (hR : Rel s) (f : fK s u1) (q : fQ u1 u2) : Rel u2 := by
  obtain ⟨a, b, c, d⟩ := Jvm.Pilot.CLastServedLaw_law_r5834_17db7c.kq f q
  have a' : ∀ x : Nat, x ≠ 7 → ¬ (24 ≤ x ∧ x ≤ 27) → x ≠ 211 → ¬ (219 ≤ x ∧ x ≤ 221) → x ≠ 237 → x ≠ 238 → u2 x = s x := a
  refine hR.gz (Or.inl ⟨c 1 (by decide), b 1 (by decide) (by decide) (by decide) (by decide) (by decide) (by decide) (by decide) (by decide), ?_, ?_⟩) ⟨?_, ?_, ?_, ?_, ?_, ?_, ?_, ?_, ?_, ?_⟩ (Or.inl ⟨?_, ?_, ?_, ?_, ?_, ?_, ?_, ?_⟩) (Or.inl ⟨fun x h1 h2 => a x (by omega) (by omega) (by omega) (by omega) (by omega) (by omega), fun x h1 h2 => a x (by omega) (by omega) (by omega) (by omega) (by omega) (by omega), ?_, ?_, ?_⟩) (Or.inl ⟨fun x h1 h2 => a x (by omega) (by omega) (by omega) (by omega) (by omega) (by omega), ?_, ?_, ?_⟩) (Or.inl ⟨?_, ?_, ?_, ?_, ?_, ?_⟩) (d hR.2.2.2.2.2.2.2)
  all_goals first | (exact b _ (by decide) (by decide) (by decide) (by decide) (by decide) (by decide) (by decide) (by decide)) | (rw [a _ (by decide) (by decide) (by decide) (by decide) (by decide) (by decide)])
theorem yf_r {B : Int → Int} {n : Int} {g0 : Int → Int} (hb : bok B n) : ∀ k : Nat, yf (lre B n g0 k) = -1 ∨ 0 ≤ yf (lre B n g0 k) ∧ yf (lre B n g0 k) ≤ 500 := by
  intro k
  have hn := hb.1.2
  induction k with
  | zero => left; rfl
  | succ k ih =>
    show yf (lli B n (lre B n g0 k)) = -1 ∨ 0 ≤ yf (lli B n (lre B n g0 k)) ∧ yf (lli B n (lre B n g0 k)) ≤ 500
    generalize lre B n g0 k = Z at ih
    have bad : ∀ p : Nat, 0 ≤ stf B n p ∧ stf B n p ≤ 500 := fun p => by have := st_r hb p; omega
    unfold lli
    by_cases q0 : yf Z ≠ -1 ∨ kdf B n (stf B n (yj Z)) = 0
    · rw [cif_p q0]; exact ih
    rw [cif_n q0]
    by_cases q1 : ¬ (wdP B n (stf B n (yj Z)) 5 ∧ yk Z < 5)
    · rw [cif_p q1]; exact Or.inr (bad _)
    rw [cif_n q1]
    by_cases q2 : ¬ (wdP B n (stf B n (yj Z + 1)) 6 ∨ wdP B n (stf B n (yj Z + 1)) 7)
    · rw [cif_p q2]; exact Or.inr (bad _)
    rw [cif_n q2]
    by_cases q3 : pf (yS B n Z) ≠ -1
    · rw [cif_p q3]
      exact (lwS_sz hb (yj Z + 2) (ym Z) (yg Z)).2
    rw [cif_n q3]
    by_cases q4 : kdf B n (stf B n (pj (yS B n Z))) = 59
    · rw [cif_p q4]; exact Or.inl rfl
    · rw [cif_n q4]; exact Or.inr (bad _)
theorem lfa_r {B : Int → Int} {n : Int} {g0 : Int → Int} (hb : bok B n) : lfa B n g0 = -1 ∧ yf (lre B n g0 500) = -1 ∧ yk (lre B n g0 500) ≠ 0 ∨ 0 ≤ lfa B n g0 ∧ lfa B n g0 ≤ 500 := by
  have hn := hb.1.2
  unfold lfa
  by_cases q : yf (lre B n g0 500) = -1
  · rw [if_pos q]
    by_cases r : yk (lre B n g0 500) = 0
    · rw [if_pos r]
      have := st_r hb (yj (lre B n g0 500))
      right; omega
    · rw [if_neg r]; exact Or.inl ⟨rfl, q, r⟩
  · rw [if_neg q]
    rcases yf_r (g0 := g0) hb 500 with z | z
    · exact absurd z q
    · exact Or.inr z
theorem fK.tx2 {s u : mm_M} (f : fK s u) {B : Int → Int} {n : Int} (t : tx2 s B n) : tx2 u B n := ⟨by rw [f.1 211 (by decide) (by decide)]; exact t.1, by rw [f.1 212 (by decide) (by decide)]; exact t.2.1, t.2.2⟩
/-- promise 4 -/
theorem q_fault {s : mm_M} {a1 : Int} (hR : Rel s) (h1 : n32 a1 = a1) (post : Int → mm_M → Prop) (hp : ∀ r1 s1, Gd (wp_X11_fault 211 a1 s1) r1 → post r1 s1) : wp_X10_fault 0 a1 s post := by
  obtain ⟨t, t2⟩ := hR.tx
  unfold wp_X10_fault
  rw [show mm_rt 0 2 = 14 from rfl, show mm_rt 0 0 = 7 from rfl, show mm_rt 0 4 = 24 from rfl]
  refine ⟨fun q => ⟨fun q2 => hp _ _ ?_, fun q2 => c_readL t (fun u1 f1 _ => hp _ _ ?_)⟩, fun q => t_readT t (fun u1 f1 _ => hp _ _ ?_)⟩
  · intro p2 k2
    exact ⟨fun _ => ⟨fun _ => k2 _ _ rfl hR, fun z => absurd z q2⟩, fun z => absurd z q⟩
  · intro p2 k2
    exact ⟨fun _ => ⟨fun z => absurd q2 z, fun _ => u_readL (f1.tx2 (t2 s ag.rf)) (fun u2 f2 _ => k2 _ _ rfl (hR.kq f1 f2))⟩, fun z => absurd z q⟩
  · intro p2 k2
    exact ⟨fun z => absurd q z, fun _ => u_readT (t2 u1 f1.ag) (fun u2 f2 _ => k2 _ _ rfl (hR.fr (f1.ag.tr f2.ag)))⟩
