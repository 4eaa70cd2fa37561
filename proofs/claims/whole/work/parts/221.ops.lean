/-! what is done to a shop -/
def setsT (T : Sh) (p w v : Int) : Sh := (⟨T.mn, T.lot, T.st, T.bu, T.ma, T.rw, fu T.pe (7 * p + w) v, T.t7, T.en, T.bk⟩ : Sh)
def tellsT (T : Sh) (c w n : Int) : Sh := (⟨T.mn, T.lot, T.st, T.bu, T.ma, T.rw, T.pe, fu T.t7 (7 * c + w) (T.t7 (7 * c + w) + n), T.en, T.bk⟩ : Sh)
def entT (fee : Int) (T : Sh) (p : Int) : Sh := (⟨T.mn, T.lot, T.st, T.bu, fu T.ma (T.pe (7 * p + 1)) (T.ma (T.pe (7 * p + 1)) + 1), fu T.rw (30 * T.pe (7 * p + 1) + T.ma (T.pe (7 * p + 1))) p, fu (fu (fu T.pe (7 * p + 2) 0) (7 * p + 4) T.mn) (7 * p + 6) (-1), fu T.t7 (7 * T.pe (7 * p) + 6) (T.t7 (7 * T.pe (7 * p) + 6) + -fee), T.en, T.bk⟩ : Sh)
def plc (f : Int → Int) (p : Int) : Nat → Int → Int
  | 0, k => k
  | n + 1, k => if f k = p then k else plc f p n (k + 1)
theorem plc_ge (f : Int → Int) (p : Int) : ∀ (n : Nat) (k : Int), k ≤ plc f p n k := by
  intro n
  induction n with
  | zero => intro k; exact Int.le_refl k
  | succ n ih =>
    intro k
    unfold plc
    by_cases h : f k = p
    · rw [if_pos h]; omega
    · rw [if_neg h]; have := ih (k + 1); omega
theorem plc_at (f : Int → Int) (p : Int) : ∀ (n : Nat) (k j : Int), k ≤ j → j < k + n → f j = p → f (plc f p n k) = p ∧ plc f p n k ≤ j := by
  intro n
  induction n with
  | zero => intro k j h1 h2; omega
  | succ n ih =>
    intro k j h1 h2 h3
    unfold plc
    by_cases h : f k = p
    · rw [if_pos h]; exact ⟨h, h1⟩
    · rw [if_neg h]
      have hk : k ≠ j := fun e => h (by rw [e]; exact h3)
      exact ih (k + 1) j (by omega) (by omega) h3
theorem plc_lt (f : Int → Int) (p : Int) : ∀ (n : Nat) (k j : Int), k ≤ j → j < plc f p n k → f j ≠ p := by
  intro n
  induction n with
  | zero => intro k j h1 h2; unfold plc at h2; omega
  | succ n ih =>
    intro k j h1 h2
    unfold plc at h2
    by_cases h : f k = p
    · rw [if_pos h] at h2; omega
    · rw [if_neg h] at h2
      by_cases e : j = k
      · rw [e]; exact h
      · exact ih (k + 1) j (by omega) h2
def remT (T : Sh) (c k : Int) : Sh := (⟨T.mn, T.lot, T.st, T.bu, fu T.ma c (T.ma c - 1), fun j => if 30 * c + k ≤ j ∧ j < 30 * c + T.ma c - 1 then T.rw (j + 1) else T.rw j, T.pe, T.t7, T.en, T.bk⟩ : Sh)
def plT (T : Sh) (p : Int) : Int := plc (fun k => T.rw (30 * T.pe (7 * p + 1) + k)) p 30 0
def levT (T : Sh) (p : Int) : Sh := remT T (T.pe (7 * p + 1)) (plT T p)
def newT (T : Sh) (p c1 c2 : Int) : Sh := (⟨T.mn, T.lot, T.st, T.bu, T.ma, T.rw, fu (fu (fu (fu (fu (fu (fu T.pe (7 * p) c1) (7 * p + 1) c2) (7 * p + 3) T.mn) (7 * p + 4) (-1)) (7 * p + 5) 0) (7 * p + 6) (-1)) (7 * p + 2) 2, T.t7, T.en, T.bk⟩ : Sh)
theorem wf.pl {C S : Int} {T : Sh} (w : wf C S T) {p : Int} (h1 : 0 ≤ p) (h2 : p < 30) (h : T.pe (7 * p + 2) = 0) : 0 ≤ plT T p ∧ plT T p < T.ma (T.pe (7 * p + 1)) ∧ T.rw (30 * T.pe (7 * p + 1) + plT T p) = p ∧ ∀ k, 0 ≤ k → k < plT T p → T.rw (30 * T.pe (7 * p + 1) + k) ≠ p := by
  obtain ⟨k, k1, k2, k3⟩ := w.ins p h1 h2 h
  have f := w.pf p h1 h2 (by omega)
  have m := w.ma0 (T.pe (7 * p + 1)) f.2.2.1 f.2.2.2.1
  have a := plc_at (fun k => T.rw (30 * T.pe (7 * p + 1) + k)) p 30 0 k k1 (by omega) k3
  have g := plc_ge (fun k => T.rw (30 * T.pe (7 * p + 1) + k)) p 30 0
  exact ⟨g, Int.lt_of_le_of_lt a.2 k2, a.1, fun j j1 j2 => plc_lt (fun k => T.rw (30 * T.pe (7 * p + 1) + k)) p 30 0 j j1 j2⟩
/-- as many places as numbers -/
theorem pig : ∀ (m n : Nat) (f : Nat → Nat), (∀ i, i < n → f i < m) → (∀ i j, i < n → j < n → f i = f j → i = j) → n ≤ m := by
  intro m
  induction m with
  | zero =>
    intro n f h1 _
    rcases Nat.eq_zero_or_pos n with h | h
    · omega
    · have := h1 0 h; omega
  | succ m ih =>
    intro n f h1 h2
    rcases Nat.eq_zero_or_pos n with h | h
    · omega
    obtain ⟨n, rfl⟩ : ∃ k, n = k + 1 := ⟨n - 1, by omega⟩
    have := ih n (fun i => if f i = m then f n else f i) (fun i hi => ?_) (fun i j hi hj e => ?_)
    · omega
    · by_cases q : f i = m
      · simp only [q, if_pos]
        have a := h1 n (by omega)
        have b : f n ≠ m := fun e => by have := h2 i n (by omega) (by omega) (by omega); omega
        omega
      · simp only [q, if_false]
        have a := h1 i (by omega)
        omega
    · have h3 := h2 i j (by omega) (by omega)
      have h4 := h2 n j (by omega) (by omega)
      have h5 := h2 i n (by omega) (by omega)
      by_cases q : f i = m <;> by_cases r : f j = m
      · exact h3 (by omega)
      · simp only [q, r, if_pos, if_false] at e
        have := h4 e
        omega
      · simp only [q, r, if_pos, if_false] at e
        have := h5 e
        omega
      · simp only [q, r, if_false] at e
        exact h3 e
/-- who is not inside finds room -/
theorem wf.room {C S : Int} {T : Sh} (w : wf C S T) {c p : Int} (c1 : 0 ≤ c) (c2 : c < C) (p1 : 0 ≤ p) (p2 : p < 30) (h : T.pe (7 * p + 2) ≠ 0) : T.ma c < 30 := by
  have m := w.ma0 c c1 c2
  by_cases q : T.ma c < 30
  · exact q
  exfalso
  have e : T.ma c = 30 := by omega
  have := pig 30 31 (fun i => if i = 30 then p.toNat else (T.rw (30 * c + i)).toNat) (fun i hi => ?_) (fun i j hi hj e => ?_)
  · omega
  · by_cases q : i = 30
    · rw [if_pos q]; omega
    · rw [if_neg q]
      have := w.ro c i c1 c2 (by omega) (by omega)
      omega
  · have key : ∀ i : Nat, i < 31 → i ≠ 30 → (T.rw (30 * c + i)).toNat ≠ p.toNat := by
      intro i hi h0 e
      have r := w.ro c i c1 c2 (by omega) (by omega)
      have : T.rw (30 * c + i) = p := by omega
      rw [this] at r
      exact h r.2.2.1
    by_cases q : i = 30 <;> by_cases r : j = 30
    · omega
    · rw [if_pos q, if_neg r] at e
      exact absurd e.symm (key j hj r)
    · rw [if_neg q, if_pos r] at e
      exact absurd e (key i hi q)
    · rw [if_neg q, if_neg r] at e
      have a := w.ro c i c1 c2 (by omega) (by omega)
      have b := w.ro c j c1 c2 (by omega) (by omega)
      have := w.di c i j c1 c2 (by omega) (by omega) (by omega) (by omega) (by omega)
      omega
theorem wf.tells {C S : Int} {T : Sh} (w : wf C S T) {c x n : Int} (hx : 0 ≤ x ∧ x < 7 ∧ x ≠ 5) : wf C S (tellsT T c x n) :=
  ⟨w.mn0, w.lo0, w.ma0, w.st0, w.bu0, w.ro, w.di, w.ho, w.ins, w.pf, fun d d1 d2 => by
    have : (tellsT T c x n).t7 (7 * d + 5) = T.t7 (7 * d + 5) := fu_n (by omega)
    rw [this]
    exact w.t5 d d1 d2, w.en0⟩
theorem wf.new {C S : Int} {T : Sh} (w : wf C S T) {p c1 c2 : Int} (p1 : 0 ≤ p) (p2 : p < 30) (hg : T.pe (7 * p + 2) = -1) (h1 : 0 ≤ c1 ∧ c1 < S) (h2 : 0 ≤ c2 ∧ c2 < C) : wf C S (newT T p c1 c2) := by
  have o : ∀ q w, 0 ≤ w → w < 7 → q ≠ p → (newT T p c1 c2).pe (7 * q + w) = T.pe (7 * q + w) := by
    intro q w w1 w2 h
    unfold newT
    dsimp only [sd_mn, sd_lot, sd_st, sd_bu, sd_ma, sd_rw, sd_pe, sd_t7, sd_en, sd_bk]
    rw [fu_n (by omega), fu_n (by omega), fu_n (by omega), fu_n (by omega), fu_n (by omega), fu_n (by omega), fu_n (by omega)]
  have o0 : ∀ q, q ≠ p → (newT T p c1 c2).pe (7 * q) = T.pe (7 * q) := fun q h => by
    have := o q 0 (by omega) (by omega) h
    rwa [show 7 * q + 0 = 7 * q by omega] at this
  have e2 : (newT T p c1 c2).pe (7 * p + 2) = 2 := fu_e
  have e : ∀ j, j ≠ 7 * p + 2 → (newT T p c1 c2).pe j = fu (fu (fu (fu (fu (fu T.pe (7 * p) c1) (7 * p + 1) c2) (7 * p + 3) T.mn) (7 * p + 4) (-1)) (7 * p + 5) 0) (7 * p + 6) (-1) j := fun j h => fu_n h
  have m := w.mn0
  refine ⟨w.mn0, w.lo0, w.ma0, w.st0, w.bu0, fun c k a1 a2 a3 a4 => ?_, w.di, fun q a1 a2 => ?_, fun q a1 a2 a3 => ?_, fun q a1 a2 a3 => ?_, w.t5, w.en0⟩
  · have r := w.ro c k a1 a2 a3 a4
    have ne : T.rw (30 * c + k) ≠ p := fun z => by rw [z] at r; omega
    refine ⟨r.1, r.2.1, ?_, ?_⟩
    · show (newT T p c1 c2).pe (7 * T.rw (30 * c + k) + 2) = 0
      rw [o _ 2 (by omega) (by omega) ne]; exact r.2.2.1
    · show (newT T p c1 c2).pe (7 * T.rw (30 * c + k) + 1) = c
      rw [o _ 1 (by omega) (by omega) ne]; exact r.2.2.2
  · by_cases h : q = p
    · rw [h, e2]; omega
    · rw [o q 2 (by omega) (by omega) h]; exact w.ho q a1 a2
  · by_cases h : q = p
    · rw [h, e2] at a3; omega
    · rw [o q 2 (by omega) (by omega) h] at a3
      rw [o q 1 (by omega) (by omega) h]; exact w.ins q a1 a2 a3
  · by_cases h : q = p
    · subst h
      rw [e (7 * q) (by omega), e (7 * q + 1) (by omega), e (7 * q + 3) (by omega), e (7 * q + 4) (by omega), e (7 * q + 5) (by omega), e (7 * q + 6) (by omega)]
      have z0 : fu (fu (fu (fu (fu (fu T.pe (7 * q) c1) (7 * q + 1) c2) (7 * q + 3) T.mn) (7 * q + 4) (-1)) (7 * q + 5) 0) (7 * q + 6) (-1) (7 * q) = c1 := by
        rw [fu_n (by omega), fu_n (by omega), fu_n (by omega), fu_n (by omega), fu_n (by omega), fu_e]
      have z1 : fu (fu (fu (fu (fu (fu T.pe (7 * q) c1) (7 * q + 1) c2) (7 * q + 3) T.mn) (7 * q + 4) (-1)) (7 * q + 5) 0) (7 * q + 6) (-1) (7 * q + 1) = c2 := by
        rw [fu_n (by omega), fu_n (by omega), fu_n (by omega), fu_n (by omega), fu_e]
      have z3 : fu (fu (fu (fu (fu (fu T.pe (7 * q) c1) (7 * q + 1) c2) (7 * q + 3) T.mn) (7 * q + 4) (-1)) (7 * q + 5) 0) (7 * q + 6) (-1) (7 * q + 3) = T.mn := by
        rw [fu_n (by omega), fu_n (by omega), fu_n (by omega), fu_e]
      have z4 : fu (fu (fu (fu (fu (fu T.pe (7 * q) c1) (7 * q + 1) c2) (7 * q + 3) T.mn) (7 * q + 4) (-1)) (7 * q + 5) 0) (7 * q + 6) (-1) (7 * q + 4) = -1 := by
        rw [fu_n (by omega), fu_n (by omega), fu_e]
      have z5 : fu (fu (fu (fu (fu (fu T.pe (7 * q) c1) (7 * q + 1) c2) (7 * q + 3) T.mn) (7 * q + 4) (-1)) (7 * q + 5) 0) (7 * q + 6) (-1) (7 * q + 5) = 0 := by
        rw [fu_n (by omega), fu_e]
      rw [z0, z1, z3, z4, z5, fu_e]
      show 0 ≤ c1 ∧ c1 < S ∧ 0 ≤ c2 ∧ c2 < C ∧ 0 ≤ T.mn ∧ T.mn ≤ T.mn ∧ _ ∧ -1 ≤ T.mn ∧ _
      omega
    · rw [o q 2 (by omega) (by omega) h] at a3
      rw [o0 q h, o q 1 (by omega) (by omega) h, o q 3 (by omega) (by omega) h, o q 4 (by omega) (by omega) h, o q 5 (by omega) (by omega) h, o q 6 (by omega) (by omega) h]
      exact w.pf q a1 a2 a3
theorem wf.ent {C S : Int} {T : Sh} (w : wf C S T) {p fee : Int} (p1 : 0 ≤ p) (p2 : p < 30) (hg : T.pe (7 * p + 2) ≠ -1) (h0 : T.pe (7 * p + 2) ≠ 0) : wf C S (entT fee T p) := by
  obtain ⟨f1, f2, f3, f4, f5, f6, f7, f8, f9, f10, f11⟩ := w.pf p p1 p2 hg
  have rm := w.room f3 f4 p1 p2 h0
  have m0 := w.ma0 _ f3 f4
  have m := w.mn0
  have o : ∀ j, j ≠ 7 * p + 2 → j ≠ 7 * p + 4 → j ≠ 7 * p + 6 → (entT fee T p).pe j = T.pe j := by
    intro j a1 a2 a3
    show fu (fu (fu T.pe (7 * p + 2) 0) (7 * p + 4) T.mn) (7 * p + 6) (-1) j = T.pe j
    rw [fu_n (by omega), fu_n (by omega), fu_n (by omega)]
  have e2 : (entT fee T p).pe (7 * p + 2) = 0 := by
    show fu (fu (fu T.pe (7 * p + 2) 0) (7 * p + 4) T.mn) (7 * p + 6) (-1) _ = 0
    rw [fu_n (by omega), fu_n (by omega), fu_e]
  have e4 : (entT fee T p).pe (7 * p + 4) = T.mn := by
    show fu (fu (fu T.pe (7 * p + 2) 0) (7 * p + 4) T.mn) (7 * p + 6) (-1) _ = T.mn
    rw [fu_n (by omega), fu_e]
  have e6 : (entT fee T p).pe (7 * p + 6) = -1 := fu_e
  have mc : (entT fee T p).ma (T.pe (7 * p + 1)) = T.ma (T.pe (7 * p + 1)) + 1 := fu_e
  have mo : ∀ c, c ≠ T.pe (7 * p + 1) → (entT fee T p).ma c = T.ma c := fun c h => fu_n h
  have rc : (entT fee T p).rw (30 * T.pe (7 * p + 1) + T.ma (T.pe (7 * p + 1))) = p := fu_e
  have ro : ∀ c k, 0 ≤ c → c < C → 0 ≤ k → k < T.ma c → (entT fee T p).rw (30 * c + k) = T.rw (30 * c + k) := by
    intro c k a1 a2 a3 a4
    have := w.ma0 c a1 a2
    refine fu_n (fun z => ?_)
    have : c = T.pe (7 * p + 1) := by omega
    subst this
    omega
  have np : ∀ c k, 0 ≤ c → c < C → 0 ≤ k → k < T.ma c → T.rw (30 * c + k) ≠ p := fun c k a1 a2 a3 a4 z => by
    have r := w.ro c k a1 a2 a3 a4
    rw [z] at r
    exact h0 r.2.2.1
  have ca : ∀ c k, 0 ≤ c → c < C → 0 ≤ k → k < (entT fee T p).ma c → (k < T.ma c ∧ (entT fee T p).rw (30 * c + k) = T.rw (30 * c + k) ∧ T.rw (30 * c + k) ≠ p) ∨ (c = T.pe (7 * p + 1) ∧ k = T.ma c ∧ (entT fee T p).rw (30 * c + k) = p) := by
    intro c k a1 a2 a3 a4
    by_cases q : c = T.pe (7 * p + 1)
    · subst q
      rw [mc] at a4
      by_cases q2 : k = T.ma (T.pe (7 * p + 1))
      · right
        exact ⟨rfl, q2, by rw [q2]; exact rc⟩
      · left
        exact ⟨by omega, ro _ k a1 a2 a3 (by omega), np _ k a1 a2 a3 (by omega)⟩
    · left
      rw [mo c q] at a4
      exact ⟨a4, ro c k a1 a2 a3 a4, np c k a1 a2 a3 a4⟩
  refine ⟨w.mn0, w.lo0, fun c a1 a2 => ?_, w.st0, w.bu0, fun c k a1 a2 a3 a4 => ?_, fun c k k2 a1 a2 a3 a4 a5 a6 a7 => ?_, fun q a1 a2 => ?_, fun q a1 a2 a3 => ?_, fun q a1 a2 a3 => ?_, fun d d1 d2 => ?_, w.en0⟩
  · by_cases q : c = T.pe (7 * p + 1)
    · rw [q, mc]; omega
    · rw [mo c q]; exact w.ma0 c a1 a2
  · rcases ca c k a1 a2 a3 a4 with ⟨b1, b2, b3⟩ | ⟨b1, b2, b3⟩
    · rw [b2]
      have r := w.ro c k a1 a2 a3 b1
      refine ⟨r.1, r.2.1, ?_, ?_⟩
      · rw [o _ (by omega) (by omega) (by omega)]; exact r.2.2.1
      · rw [o _ (by omega) (by omega) (by omega)]; exact r.2.2.2
    · rw [b3]
      exact ⟨p1, p2, e2, by rw [o _ (by omega) (by omega) (by omega)]; exact b1.symm⟩
  · rcases ca c k a1 a2 a3 a4 with ⟨b1, b2, b3⟩ | ⟨b1, b2, b3⟩ <;> rcases ca c k2 a1 a2 a5 a6 with ⟨d1, d2, d3⟩ | ⟨d1, d2, d3⟩
    · rw [b2, d2] at a7
      exact w.di c k k2 a1 a2 a3 b1 a5 d1 a7
    · rw [b2, d3] at a7; exact absurd a7 b3
    · rw [b3, d2] at a7; exact absurd a7.symm d3
    · omega
  · by_cases q2 : q = p
    · rw [q2, e2]; omega
    · rw [o _ (by omega) (by omega) (by omega)]; exact w.ho q a1 a2
  · by_cases q2 : q = p
    · subst q2
      rw [o (7 * q + 1) (by omega) (by omega) (by omega)]
      exact ⟨T.ma (T.pe (7 * q + 1)), by omega, by rw [mc]; omega, rc⟩
    · rw [o _ (by omega) (by omega) (by omega)] at a3
      rw [o (7 * q + 1) (by omega) (by omega) (by omega)]
      obtain ⟨k, k1, k2, k3⟩ := w.ins q a1 a2 a3
      have g := w.pf q a1 a2 (by omega)
      refine ⟨k, k1, ?_, by rw [ro _ k g.2.2.1 g.2.2.2.1 k1 k2]; exact k3⟩
      by_cases q3 : T.pe (7 * q + 1) = T.pe (7 * p + 1)
      · rw [q3] at k2 ⊢; rw [mc]; omega
      · rw [mo _ q3]; exact k2
  · by_cases q2 : q = p
    · subst q2
      rw [e4, e6, o (7 * q) (by omega) (by omega) (by omega), o (7 * q + 1) (by omega) (by omega) (by omega), o (7 * q + 3) (by omega) (by omega) (by omega), o (7 * q + 5) (by omega) (by omega) (by omega)]
      show _ ∧ _ ∧ _ ∧ _ ∧ _ ∧ _ ≤ T.mn ∧ _ ∧ T.mn ≤ T.mn ∧ _
      omega
    · rw [o _ (by omega) (by omega) (by omega)] at a3
      rw [o (7 * q) (by omega) (by omega) (by omega), o (7 * q + 1) (by omega) (by omega) (by omega), o (7 * q + 3) (by omega) (by omega) (by omega), o (7 * q + 4) (by omega) (by omega) (by omega), o (7 * q + 5) (by omega) (by omega) (by omega), o (7 * q + 6) (by omega) (by omega) (by omega)]
      exact w.pf q a1 a2 a3
  · have : (entT fee T p).t7 (7 * d + 5) = T.t7 (7 * d + 5) := fu_n (by omega)
    rw [this]
    exact w.t5 d d1 d2
/-- who is inside leaves the row, and is v from now on -/
def outT (T : Sh) (p v : Int) : Sh := setsT (levT T p) p 2 v
theorem wf.out {C S : Int} {T : Sh} (w : wf C S T) {p v : Int} (p1 : 0 ≤ p) (p2 : p < 30) (h0 : T.pe (7 * p + 2) = 0) (hv : v = -1 ∨ v = 1 ∨ v = 2) : wf C S (outT T p v) := by
  obtain ⟨f1, f2, f3, f4, f5, f6, f7, f8, f9, f10, f11⟩ := w.pf p p1 p2 (by omega)
  obtain ⟨l1, l2, l3, l4⟩ := w.pl p1 p2 h0
  have m0 := w.ma0 _ f3 f4
  have o : ∀ j, j ≠ 7 * p + 2 → (outT T p v).pe j = T.pe j := fun j h => fu_n h
  have e2 : (outT T p v).pe (7 * p + 2) = v := fu_e
  have mc : (outT T p v).ma (T.pe (7 * p + 1)) = T.ma (T.pe (7 * p + 1)) - 1 := fu_e
  have mo : ∀ c, c ≠ T.pe (7 * p + 1) → (outT T p v).ma c = T.ma c := fun c h => fu_n h
  have rr : ∀ j, (outT T p v).rw j = if 30 * T.pe (7 * p + 1) + plT T p ≤ j ∧ j < 30 * T.pe (7 * p + 1) + T.ma (T.pe (7 * p + 1)) - 1 then T.rw (j + 1) else T.rw j := fun j => rfl
  have np : ∀ c k, 0 ≤ c → c < C → 0 ≤ k → k < T.ma c → ¬ (c = T.pe (7 * p + 1) ∧ k = plT T p) → T.rw (30 * c + k) ≠ p := fun c k a1 a2 a3 a4 hn z => by
    have r := w.ro c k a1 a2 a3 a4
    rw [z] at r
    have ec := r.2.2.2
    subst ec
    have := w.di _ k (plT T p) a1 a2 a3 a4 l1 l2 (by rw [z, l3])
    exact hn ⟨rfl, this⟩
  have ca : ∀ c k, 0 ≤ c → c < C → 0 ≤ k → k < (outT T p v).ma c → ∃ k', 0 ≤ k' ∧ k' < T.ma c ∧ (outT T p v).rw (30 * c + k) = T.rw (30 * c + k') ∧ T.rw (30 * c + k') ≠ p ∧ ((c = T.pe (7 * p + 1) ∧ plT T p ≤ k ∧ k' = k + 1) ∨ (¬ (c = T.pe (7 * p + 1) ∧ plT T p ≤ k) ∧ k' = k)) := by
    intro c k a1 a2 a3 a4
    have mm := w.ma0 c a1 a2
    by_cases q : c = T.pe (7 * p + 1)
    · rw [q, mc, ← q] at a4
      by_cases q2 : plT T p ≤ k
      · refine ⟨k + 1, by omega, by omega, ?_, np c _ a1 a2 (by omega) (by omega) (by omega), Or.inl ⟨q, q2, rfl⟩⟩
        rw [rr, ← q, if_pos (by omega)]
        congr 1; omega
      · refine ⟨k, by omega, by omega, ?_, np c _ a1 a2 (by omega) (by omega) (by omega), Or.inr ⟨fun z => q2 z.2, rfl⟩⟩
        rw [rr, ← q, if_neg (by omega)]
    · rw [mo c q] at a4
      refine ⟨k, by omega, by omega, ?_, np c _ a1 a2 (by omega) (by omega) (fun z => q z.1), Or.inr ⟨fun z => q z.1, rfl⟩⟩
      rw [rr, if_neg (by omega)]
  refine ⟨w.mn0, w.lo0, fun c a1 a2 => ?_, w.st0, w.bu0, fun c k a1 a2 a3 a4 => ?_, fun c k k2 a1 a2 a3 a4 a5 a6 a7 => ?_, fun q a1 a2 => ?_, fun q a1 a2 a3 => ?_, fun q a1 a2 a3 => ?_, w.t5, w.en0⟩
  · by_cases q : c = T.pe (7 * p + 1)
    · rw [q, mc]; omega
    · rw [mo c q]; exact w.ma0 c a1 a2
  · obtain ⟨k', b1, b2, b3, b4, -⟩ := ca c k a1 a2 a3 a4
    rw [b3]
    have r := w.ro c k' a1 a2 b1 b2
    refine ⟨r.1, r.2.1, ?_, ?_⟩
    · rw [o _ (by omega)]; exact r.2.2.1
    · rw [o _ (by omega)]; exact r.2.2.2
  · obtain ⟨k', b1, b2, b3, b4, b5⟩ := ca c k a1 a2 a3 a4
    obtain ⟨k'', d1, d2, d3, d4, d5⟩ := ca c k2 a1 a2 a5 a6
    rw [b3, d3] at a7
    have := w.di c k' k'' a1 a2 b1 b2 d1 d2 a7
    omega
  · by_cases q2 : q = p
    · rw [q2, e2]; omega
    · rw [o _ (by omega)]; exact w.ho q a1 a2
  · by_cases q2 : q = p
    · rw [q2, e2] at a3; omega
    · rw [o _ (by omega)] at a3
      rw [o (7 * q + 1) (by omega)]
      obtain ⟨k, k1, k2, k3⟩ := w.ins q a1 a2 a3
      have g := w.pf q a1 a2 (by omega)
      have mm := w.ma0 _ g.2.2.1 g.2.2.2.1
      by_cases q3 : T.pe (7 * q + 1) = T.pe (7 * p + 1)
      · rw [q3] at k2 k3 ⊢
        have ne : k ≠ plT T p := fun z => by rw [z, l3] at k3; omega
        by_cases q4 : plT T p < k
        · refine ⟨k - 1, by omega, by rw [mc]; omega, ?_⟩
          rw [rr, if_pos (by omega), show 30 * T.pe (7 * p + 1) + (k - 1) + 1 = 30 * T.pe (7 * p + 1) + k by omega]
          exact k3
        · refine ⟨k, by omega, by rw [mc]; omega, ?_⟩
          rw [rr, if_neg (by omega)]
          exact k3
      · refine ⟨k, k1, by rw [mo _ q3]; exact k2, ?_⟩
        rw [rr, if_neg (by omega)]
        exact k3
  · by_cases q2 : q = p
    · subst q2
      rw [o (7 * q) (by omega), o (7 * q + 1) (by omega), o (7 * q + 3) (by omega), o (7 * q + 4) (by omega), o (7 * q + 5) (by omega), o (7 * q + 6) (by omega)]
      exact ⟨f1, f2, f3, f4, f5, f6, f7, f8, f9, f10, f11⟩
    · rw [o _ (by omega)] at a3
      rw [o (7 * q) (by omega), o (7 * q + 1) (by omega), o (7 * q + 3) (by omega), o (7 * q + 4) (by omega), o (7 * q + 5) (by omega), o (7 * q + 6) (by omega)]
      exact w.pf q a1 a2 a3
theorem wf.gone {C S : Int} {T : Sh} (w : wf C S T) {p : Int} (p1 : 0 ≤ p) (p2 : p < 30) (h0 : T.pe (7 * p + 2) ≠ 0) : wf C S (setsT T p 2 (-1)) := by
  have o : ∀ j, j ≠ 7 * p + 2 → (setsT T p 2 (-1)).pe j = T.pe j := fun j h => fu_n h
  have e2 : (setsT T p 2 (-1)).pe (7 * p + 2) = -1 := fu_e
  refine ⟨w.mn0, w.lo0, w.ma0, w.st0, w.bu0, fun c k a1 a2 a3 a4 => ?_, w.di, fun q a1 a2 => ?_, fun q a1 a2 a3 => ?_, fun q a1 a2 a3 => ?_, w.t5, w.en0⟩
  · have r := w.ro c k a1 a2 a3 a4
    have ne : T.rw (30 * c + k) ≠ p := fun z => by rw [z] at r; exact h0 r.2.2.1
    exact ⟨r.1, r.2.1, (o (7 * T.rw (30 * c + k) + 2) (by omega)).trans r.2.2.1, (o (7 * T.rw (30 * c + k) + 1) (by omega)).trans r.2.2.2⟩
  · by_cases q2 : q = p
    · rw [q2, e2]; omega
    · rw [o _ (by omega)]; exact w.ho q a1 a2
  · by_cases q2 : q = p
    · rw [q2, e2] at a3; omega
    · rw [o _ (by omega)] at a3
      rw [o (7 * q + 1) (by omega)]
      exact w.ins q a1 a2 a3
  · by_cases q2 : q = p
    · rw [q2, e2] at a3; omega
    · rw [o _ (by omega)] at a3
      rw [o (7 * q) (by omega), o (7 * q + 1) (by omega), o (7 * q + 3) (by omega), o (7 * q + 4) (by omega), o (7 * q + 5) (by omega), o (7 * q + 6) (by omega)]
      exact w.pf q a1 a2 a3
/-- what does not say who is where -/
theorem wf.set {C S : Int} {T : Sh} (w : wf C S T) {p x v : Int} (p1 : 0 ≤ p) (p2 : p < 30) (hx : x = 5 ∧ 0 ≤ v ∨ x = 6 ∧ -1 ≤ v ∧ v ≤ 249) : wf C S (setsT T p x v) := by
  have o : ∀ j, j ≠ 7 * p + x → (setsT T p x v).pe j = T.pe j := fun j h => fu_n h
  have e2 : (setsT T p x v).pe (7 * p + x) = v := fu_e
  refine ⟨w.mn0, w.lo0, w.ma0, w.st0, w.bu0, fun c k a1 a2 a3 a4 => ?_, w.di, fun q a1 a2 => ?_, fun q a1 a2 a3 => ?_, fun q a1 a2 a3 => ?_, w.t5, w.en0⟩
  · have r := w.ro c k a1 a2 a3 a4
    exact ⟨r.1, r.2.1, (o (7 * T.rw (30 * c + k) + 2) (by omega)).trans r.2.2.1, (o (7 * T.rw (30 * c + k) + 1) (by omega)).trans r.2.2.2⟩
  · rw [o _ (by omega)]; exact w.ho q a1 a2
  · rw [o _ (by omega)] at a3
    rw [o (7 * q + 1) (by omega)]
    exact w.ins q a1 a2 a3
  · rw [o _ (by omega)] at a3
    have g := w.pf q a1 a2 a3
    rw [o (7 * q) (by omega), o (7 * q + 1) (by omega), o (7 * q + 3) (by omega), o (7 * q + 4) (by omega)]
    refine ⟨g.1, g.2.1, g.2.2.1, g.2.2.2.1, g.2.2.2.2.1, g.2.2.2.2.2.1, g.2.2.2.2.2.2.1, g.2.2.2.2.2.2.2.1, ?_⟩
    by_cases q2 : q = p
    · subst q2
      rcases hx with ⟨hx, hv⟩ | ⟨hx, hv⟩
      · subst hx
        rw [e2, o (7 * q + 6) (by omega)]
        omega
      · subst hx
        rw [e2, o (7 * q + 5) (by omega)]
        omega
    · rw [o (7 * q + 5) (by omega), o (7 * q + 6) (by omega)]
      omega
