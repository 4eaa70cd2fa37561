/-! the shop as the reference's rows -/
abbrev Sh : Type := Int × Int × (Int → Int) × (Int → Int) × (Int → Int) × (Int → Int) × (Int → Int) × (Int → Int) × Int × (Int → Int)
def Sh.mn (T : Sh) : Int := T.1
def Sh.lot (T : Sh) : Int := T.2.1
def Sh.st (T : Sh) : Int → Int := T.2.2.1
def Sh.bu (T : Sh) : Int → Int := T.2.2.2.1
def Sh.ma (T : Sh) : Int → Int := T.2.2.2.2.1
def Sh.rw (T : Sh) : Int → Int := T.2.2.2.2.2.1
def Sh.pe (T : Sh) : Int → Int := T.2.2.2.2.2.2.1
def Sh.t7 (T : Sh) : Int → Int := T.2.2.2.2.2.2.2.1
def Sh.en (T : Sh) : Int := T.2.2.2.2.2.2.2.2.1
def Sh.bk (T : Sh) : Int → Int := T.2.2.2.2.2.2.2.2.2
theorem sd_mn {x1 x2 : Int} {x3 x4 x5 x6 x7 x8 : Int → Int} {x9 : Int} {x10 : Int → Int} : Sh.mn (⟨x1, x2, x3, x4, x5, x6, x7, x8, x9, x10⟩ : Sh) = x1 := rfl
theorem sd_lot {x1 x2 : Int} {x3 x4 x5 x6 x7 x8 : Int → Int} {x9 : Int} {x10 : Int → Int} : Sh.lot (⟨x1, x2, x3, x4, x5, x6, x7, x8, x9, x10⟩ : Sh) = x2 := rfl
theorem sd_st {x1 x2 : Int} {x3 x4 x5 x6 x7 x8 : Int → Int} {x9 : Int} {x10 : Int → Int} : Sh.st (⟨x1, x2, x3, x4, x5, x6, x7, x8, x9, x10⟩ : Sh) = x3 := rfl
theorem sd_bu {x1 x2 : Int} {x3 x4 x5 x6 x7 x8 : Int → Int} {x9 : Int} {x10 : Int → Int} : Sh.bu (⟨x1, x2, x3, x4, x5, x6, x7, x8, x9, x10⟩ : Sh) = x4 := rfl
theorem sd_ma {x1 x2 : Int} {x3 x4 x5 x6 x7 x8 : Int → Int} {x9 : Int} {x10 : Int → Int} : Sh.ma (⟨x1, x2, x3, x4, x5, x6, x7, x8, x9, x10⟩ : Sh) = x5 := rfl
theorem sd_rw {x1 x2 : Int} {x3 x4 x5 x6 x7 x8 : Int → Int} {x9 : Int} {x10 : Int → Int} : Sh.rw (⟨x1, x2, x3, x4, x5, x6, x7, x8, x9, x10⟩ : Sh) = x6 := rfl
theorem sd_pe {x1 x2 : Int} {x3 x4 x5 x6 x7 x8 : Int → Int} {x9 : Int} {x10 : Int → Int} : Sh.pe (⟨x1, x2, x3, x4, x5, x6, x7, x8, x9, x10⟩ : Sh) = x7 := rfl
theorem sd_t7 {x1 x2 : Int} {x3 x4 x5 x6 x7 x8 : Int → Int} {x9 : Int} {x10 : Int → Int} : Sh.t7 (⟨x1, x2, x3, x4, x5, x6, x7, x8, x9, x10⟩ : Sh) = x8 := rfl
theorem sd_en {x1 x2 : Int} {x3 x4 x5 x6 x7 x8 : Int → Int} {x9 : Int} {x10 : Int → Int} : Sh.en (⟨x1, x2, x3, x4, x5, x6, x7, x8, x9, x10⟩ : Sh) = x9 := rfl
theorem sd_bk {x1 x2 : Int} {x3 x4 x5 x6 x7 x8 : Int → Int} {x9 : Int} {x10 : Int → Int} : Sh.bk (⟨x1, x2, x3, x4, x5, x6, x7, x8, x9, x10⟩ : Sh) = x10 := rfl
def fu (f : Int → Int) (j v : Int) : Int → Int := fun k => if k = j then v else f k
theorem fu_e {f : Int → Int} {j v : Int} : fu f j v j = v := if_pos rfl
theorem fu_n {f : Int → Int} {j k v : Int} (h : k ≠ j) : fu f j v k = f k := if_neg h
def wf (C S : Int) (T : Sh) : Prop := (0 ≤ T.mn ∧ T.mn ≤ 240) ∧ (0 ≤ T.lot ∧ T.lot < 2147483648) ∧ (∀ c, 0 ≤ c → c < C → 0 ≤ T.ma c ∧ T.ma c ≤ 30) ∧ (∀ c, 0 ≤ c → c < C → 0 ≤ T.st c ∧ T.st c ≤ 99) ∧ (∀ c, 0 ≤ c → c < C → 0 ≤ T.bu c ∧ T.bu c ≤ 249) ∧ (∀ c k, 0 ≤ c → c < C → 0 ≤ k → k < T.ma c → 0 ≤ T.rw (30 * c + k) ∧ T.rw (30 * c + k) < 30 ∧ T.pe (7 * T.rw (30 * c + k) + 2) = 0 ∧ T.pe (7 * T.rw (30 * c + k) + 1) = c) ∧ (∀ c k k2, 0 ≤ c → c < C → 0 ≤ k → k < T.ma c → 0 ≤ k2 → k2 < T.ma c → T.rw (30 * c + k) = T.rw (30 * c + k2) → k = k2) ∧ (∀ p, 0 ≤ p → p < 30 → -1 ≤ T.pe (7 * p + 2) ∧ T.pe (7 * p + 2) ≤ 2) ∧ (∀ p, 0 ≤ p → p < 30 → T.pe (7 * p + 2) = 0 → ∃ k, 0 ≤ k ∧ k < T.ma (T.pe (7 * p + 1)) ∧ T.rw (30 * T.pe (7 * p + 1) + k) = p) ∧ (∀ p, 0 ≤ p → p < 30 → T.pe (7 * p + 2) ≠ -1 → 0 ≤ T.pe (7 * p) ∧ T.pe (7 * p) < S ∧ 0 ≤ T.pe (7 * p + 1) ∧ T.pe (7 * p + 1) < C ∧ 0 ≤ T.pe (7 * p + 3) ∧ T.pe (7 * p + 3) ≤ T.mn ∧ -1 ≤ T.pe (7 * p + 4) ∧ T.pe (7 * p + 4) ≤ T.mn ∧ 0 ≤ T.pe (7 * p + 5) ∧ -1 ≤ T.pe (7 * p + 6) ∧ T.pe (7 * p + 6) ≤ 249) ∧ (∀ c, 0 ≤ c → c < S → 0 ≤ T.t7 (7 * c + 5) ∧ T.t7 (7 * c + 5) ≤ 240) ∧ (0 ≤ T.en ∧ T.en ≤ 20)
theorem wf.mn0 {C S : Int} {T : Sh} (h : wf C S T) : 0 ≤ T.mn ∧ T.mn ≤ 240 := h.1
theorem wf.lo0 {C S : Int} {T : Sh} (h : wf C S T) : 0 ≤ T.lot ∧ T.lot < 2147483648 := h.2.1
theorem wf.ma0 {C S : Int} {T : Sh} (h : wf C S T) : ∀ c, 0 ≤ c → c < C → 0 ≤ T.ma c ∧ T.ma c ≤ 30 := h.2.2.1
theorem wf.st0 {C S : Int} {T : Sh} (h : wf C S T) : ∀ c, 0 ≤ c → c < C → 0 ≤ T.st c ∧ T.st c ≤ 99 := h.2.2.2.1
theorem wf.bu0 {C S : Int} {T : Sh} (h : wf C S T) : ∀ c, 0 ≤ c → c < C → 0 ≤ T.bu c ∧ T.bu c ≤ 249 := h.2.2.2.2.1
theorem wf.ro {C S : Int} {T : Sh} (h : wf C S T) : ∀ c k, 0 ≤ c → c < C → 0 ≤ k → k < T.ma c → 0 ≤ T.rw (30 * c + k) ∧ T.rw (30 * c + k) < 30 ∧ T.pe (7 * T.rw (30 * c + k) + 2) = 0 ∧ T.pe (7 * T.rw (30 * c + k) + 1) = c := h.2.2.2.2.2.1
theorem wf.di {C S : Int} {T : Sh} (h : wf C S T) : ∀ c k k2, 0 ≤ c → c < C → 0 ≤ k → k < T.ma c → 0 ≤ k2 → k2 < T.ma c → T.rw (30 * c + k) = T.rw (30 * c + k2) → k = k2 := h.2.2.2.2.2.2.1
theorem wf.ho {C S : Int} {T : Sh} (h : wf C S T) : ∀ p, 0 ≤ p → p < 30 → -1 ≤ T.pe (7 * p + 2) ∧ T.pe (7 * p + 2) ≤ 2 := h.2.2.2.2.2.2.2.1
theorem wf.ins {C S : Int} {T : Sh} (h : wf C S T) : ∀ p, 0 ≤ p → p < 30 → T.pe (7 * p + 2) = 0 → ∃ k, 0 ≤ k ∧ k < T.ma (T.pe (7 * p + 1)) ∧ T.rw (30 * T.pe (7 * p + 1) + k) = p := h.2.2.2.2.2.2.2.2.1
theorem wf.pf {C S : Int} {T : Sh} (h : wf C S T) : ∀ p, 0 ≤ p → p < 30 → T.pe (7 * p + 2) ≠ -1 → 0 ≤ T.pe (7 * p) ∧ T.pe (7 * p) < S ∧ 0 ≤ T.pe (7 * p + 1) ∧ T.pe (7 * p + 1) < C ∧ 0 ≤ T.pe (7 * p + 3) ∧ T.pe (7 * p + 3) ≤ T.mn ∧ -1 ≤ T.pe (7 * p + 4) ∧ T.pe (7 * p + 4) ≤ T.mn ∧ 0 ≤ T.pe (7 * p + 5) ∧ -1 ≤ T.pe (7 * p + 6) ∧ T.pe (7 * p + 6) ≤ 249 := h.2.2.2.2.2.2.2.2.2.1
theorem wf.t5 {C S : Int} {T : Sh} (h : wf C S T) : ∀ c, 0 ≤ c → c < S → 0 ≤ T.t7 (7 * c + 5) ∧ T.t7 (7 * c + 5) ≤ 240 := h.2.2.2.2.2.2.2.2.2.2.1
theorem wf.en0 {C S : Int} {T : Sh} (h : wf C S T) : 0 ≤ T.en ∧ T.en ≤ 20 := h.2.2.2.2.2.2.2.2.2.2.2
def rep (s : mm_M) (b : Nat) (C S : Int) (T : Sh) : Prop := (s b 7 = T.mn) ∧ (s b 8 = T.lot) ∧ (∀ c : Nat, (c : Int) < C → s (b + 36 + 2 * c) 1 = T.ma c ∧ s (b + 36 + 2 * c) 2 = T.st c ∧ s (b + 36 + 2 * c) 3 = T.bu c ∧ ∀ k : Int, 0 ≤ k → k < T.ma c → s (b + 37 + 2 * c) k = T.rw (30 * c + k)) ∧ (∀ p : Nat, p < 30 → s (b + 6 + p) 0 = T.pe (7 * p + 2) ∧ (T.pe (7 * p + 2) ≠ -1 → s (b + 6 + p) 1 = T.pe (7 * p) ∧ s (b + 6 + p) 2 = T.pe (7 * p + 1) ∧ s (b + 6 + p) 3 = T.pe (7 * p + 3) ∧ s (b + 6 + p) 4 = T.pe (7 * p + 4) ∧ s (b + 6 + p) 5 = T.pe (7 * p + 5) ∧ s (b + 6 + p) 6 = T.pe (7 * p + 6))) ∧ (∀ j : Int, 0 ≤ j → j < 7 * S → s (b + 3) j = T.t7 j) ∧ (s (b + 4) 1 = T.en) ∧ (∀ j : Int, 0 ≤ j → j < 5 * T.en → s (b + 5) j = T.bk j)
theorem rep.mn {s : mm_M} {b : Nat} {C S : Int} {T : Sh} (h : rep s b C S T) : s b 7 = T.mn := h.1
theorem rep.lot {s : mm_M} {b : Nat} {C S : Int} {T : Sh} (h : rep s b C S T) : s b 8 = T.lot := h.2.1
theorem rep.dk {s : mm_M} {b : Nat} {C S : Int} {T : Sh} (h : rep s b C S T) : ∀ c : Nat, (c : Int) < C → s (b + 36 + 2 * c) 1 = T.ma c ∧ s (b + 36 + 2 * c) 2 = T.st c ∧ s (b + 36 + 2 * c) 3 = T.bu c ∧ ∀ k : Int, 0 ≤ k → k < T.ma c → s (b + 37 + 2 * c) k = T.rw (30 * c + k) := h.2.2.1
theorem rep.pp {s : mm_M} {b : Nat} {C S : Int} {T : Sh} (h : rep s b C S T) : ∀ p : Nat, p < 30 → s (b + 6 + p) 0 = T.pe (7 * p + 2) ∧ (T.pe (7 * p + 2) ≠ -1 → s (b + 6 + p) 1 = T.pe (7 * p) ∧ s (b + 6 + p) 2 = T.pe (7 * p + 1) ∧ s (b + 6 + p) 3 = T.pe (7 * p + 3) ∧ s (b + 6 + p) 4 = T.pe (7 * p + 4) ∧ s (b + 6 + p) 5 = T.pe (7 * p + 5) ∧ s (b + 6 + p) 6 = T.pe (7 * p + 6)) := h.2.2.2.1
theorem rep.tt {s : mm_M} {b : Nat} {C S : Int} {T : Sh} (h : rep s b C S T) : ∀ j : Int, 0 ≤ j → j < 7 * S → s (b + 3) j = T.t7 j := h.2.2.2.2.1
theorem rep.en {s : mm_M} {b : Nat} {C S : Int} {T : Sh} (h : rep s b C S T) : s (b + 4) 1 = T.en := h.2.2.2.2.2.1
theorem rep.bk {s : mm_M} {b : Nat} {C S : Int} {T : Sh} (h : rep s b C S T) : ∀ j : Int, 0 ≤ j → j < 5 * T.en → s (b + 5) j = T.bk j := h.2.2.2.2.2.2
theorem rs_to {s : mm_M} {b : Nat} {C S mn lot en : Int} {st bu ma rw pe t7 bk : Int → Int} (h : r_S s b C S mn lot st bu ma rw pe t7 en bk) : rep s b C S ⟨mn, lot, st, bu, ma, rw, pe, t7, en, bk⟩ ∧ wf C S ⟨mn, lot, st, bu, ma, rw, pe, t7, en, bk⟩ := by
  obtain ⟨h1, h2, h3, h4, h5, h6, h7, h8, h9, h10, h11, h12, h13, h14⟩ := h
  have e : ∀ c : Int, 0 ≤ c → ((c.toNat : Nat) : Int) = c := fun c h => by omega
  refine ⟨⟨h1, h2, fun c hc => ⟨(h7 c hc).1, (h7 c hc).2.2.2.1, (h7 c hc).2.2.2.2.1, fun k k1 k2 => ((h7 c hc).2.2.2.2.2.2.2.2.2 k k1 k2).1⟩, fun p hp => ⟨(h8 p hp).1, fun q => ?_⟩, h9, h11, h14⟩, ⟨⟨h3, h4⟩, ⟨h5, h6⟩, fun c c1 c2 => ?_, fun c c1 c2 => ?_, fun c c1 c2 => ?_, fun c k c1 c2 k1 k2 => ?_, fun c k k' c1 c2 k1 k2 k3 k4 q => ?_, fun p p1 p2 => ?_, fun p p1 p2 q => ?_, fun p p1 p2 q => ?_, h10, ⟨h12, h13⟩⟩⟩
  · obtain ⟨a1, a2, a3, a4, a5, a6, a7, a8, a9, a10, a11, a12, a13, a14, a15, a16, a17⟩ := (h8 p hp).2.2.2.2 q
    exact ⟨a1, a4, a7, a10, a13, a15⟩
  · have := h7 c.toNat (by rw [e c c1]; exact c2)
    rw [e c c1] at this
    exact ⟨this.2.1, this.2.2.1⟩
  · have := h7 c.toNat (by rw [e c c1]; exact c2)
    rw [e c c1] at this
    exact ⟨this.2.2.2.2.2.1, this.2.2.2.2.2.2.1⟩
  · have := h7 c.toNat (by rw [e c c1]; exact c2)
    rw [e c c1] at this
    exact ⟨this.2.2.2.2.2.2.2.1, this.2.2.2.2.2.2.2.2.1⟩
  · have := h7 c.toNat (by rw [e c c1]; exact c2)
    rw [e c c1] at this
    have q := this.2.2.2.2.2.2.2.2.2 k k1 k2
    exact ⟨q.2.1, q.2.2.1, q.2.2.2.1, q.2.2.2.2.1⟩
  · have := h7 c.toNat (by rw [e c c1]; exact c2)
    rw [e c c1] at this
    exact (this.2.2.2.2.2.2.2.2.2 k k1 k2).2.2.2.2.2 k' k3 k4 q
  · have := h8 p.toNat (by omega)
    rw [e p p1] at this
    exact ⟨this.2.1, this.2.2.1⟩
  · have := h8 p.toNat (by omega)
    rw [e p p1] at this
    exact this.2.2.2.1 q
  · have := h8 p.toNat (by omega)
    rw [e p p1] at this
    obtain ⟨a1, a2, a3, a4, a5, a6, a7, a8, a9, a10, a11, a12, a13, a14, a15, a16, a17⟩ := this.2.2.2.2 q
    exact ⟨a2, a3, a5, a6, a8, a9, a11, a12, a14, a16, a17⟩
theorem rs_of {s : mm_M} {b : Nat} {C S : Int} {T : Sh} (h : rep s b C S T) (w : wf C S T) : r_S s b C S T.mn T.lot T.st T.bu T.ma T.rw T.pe T.t7 T.en T.bk := by
  refine ⟨h.mn, h.lot, w.mn0.1, w.mn0.2, w.lo0.1, w.lo0.2, fun c hc => ?_, fun p hp => ?_, h.tt, w.t5, h.en, w.en0.1, w.en0.2, h.bk⟩
  · obtain ⟨d1, d2, d3, d4⟩ := h.dk c hc
    refine ⟨d1, (w.ma0 c (by omega) hc).1, (w.ma0 c (by omega) hc).2, d2, d3, (w.st0 c (by omega) hc).1, (w.st0 c (by omega) hc).2, (w.bu0 c (by omega) hc).1, (w.bu0 c (by omega) hc).2, fun k k1 k2 => ?_⟩
    have r := w.ro c k (by omega) hc k1 k2
    exact ⟨d4 k k1 k2, r.1, r.2.1, r.2.2.1, r.2.2.2, fun k' k3 k4 q => w.di c k k' (by omega) hc k1 k2 k3 k4 q⟩
  · obtain ⟨p1, p2⟩ := h.pp p hp
    have o := w.ho p (by omega) (by omega)
    refine ⟨p1, o.1, o.2, w.ins p (by omega) (by omega), fun q => ?_⟩
    obtain ⟨b1, b2, b3, b4, b5, b6⟩ := p2 q
    obtain ⟨c1, c2, c3, c4, c5, c6, c7, c8, c9, c10, c11⟩ := w.pf p (by omega) (by omega) q
    exact ⟨b1, c1, c2, b2, c3, c4, b3, c5, c6, b4, c7, c8, b5, c9, b6, c10, c11⟩
/-- the reference's view -/
def vo (t : mm_M) : Sh := ⟨t 211 28, t 211 37, t 225, t 226, t 227, t 228, t 229, t 230, t 211 35, t 231⟩
def scC (a : Nat) (j : Int) : Bool := scr a j || decide (29 ≤ a ∧ a < 71)
def scR (a : Nat) (j : Int) : Bool := scr a j || decide (225 ≤ a ∧ a ≤ 231) || (decide (a = 211) && (decide (j = 28) || decide (j = 35) || decide (j = 37)))
def agC (s s' : mm_M) : Prop := ∀ a j, scC a j = false → s' a j = s a j
def agR (s s' : mm_M) : Prop := ∀ a j, scR a j = false → s' a j = s a j
theorem agC.rf {s : mm_M} : agC s s := fun _ _ _ => rfl
theorem agR.rf {s : mm_M} : agR s s := fun _ _ _ => rfl
theorem agC.tr {s s' s'' : mm_M} (h : agC s s') (h2 : agC s' s'') : agC s s'' := fun a j q => (h2 a j q).trans (h a j q)
theorem agR.tr {s s' s'' : mm_M} (h : agR s s') (h2 : agR s' s'') : agR s s'' := fun a j q => (h2 a j q).trans (h a j q)
theorem agC.up {s s' : mm_M} {a : Nat} {j v : Int} (h : agC s s') (hs : scC a j = true) : agC s (mm_up s' a j v) := fun b k q => by
  rw [up_n]
  · exact h b k q
  · by_cases hb : b = a
    · right
      intro hk
      rw [hb, hk, hs] at q
      cases q
    · exact Or.inl hb
theorem agR.up {s s' : mm_M} {a : Nat} {j v : Int} (h : agR s s') (hs : scR a j = true) : agR s (mm_up s' a j v) := fun b k q => by
  rw [up_n]
  · exact h b k q
  · by_cases hb : b = a
    · right
      intro hk
      rw [hb, hk, hs] at q
      cases q
    · exact Or.inl hb
theorem scC_shop {a : Nat} {j : Int} (h : 29 ≤ a) (h2 : a < 71) : scC a j = true := by
  unfold scC
  rw [decide_eq_true (show 29 ≤ a ∧ a < 71 from ⟨h, h2⟩), Bool.or_true]
theorem scR_ref {a : Nat} {j : Int} (h : 225 ≤ a) (h2 : a ≤ 231) : scR a j = true := by
  unfold scR
  rw [decide_eq_true (show 225 ≤ a ∧ a ≤ 231 from ⟨h, h2⟩), Bool.or_true, Bool.true_or]
theorem agC.c {s s' : mm_M} (h : agC s s') {a : Nat} (ha : ∀ j, scC a j = false) : s' a = s a := funext fun j => h a j (ha j)
theorem agR.c {s s' : mm_M} (h : agR s s') {a : Nat} (ha : ∀ j, scR a j = false) : s' a = s a := funext fun j => h a j (ha j)
/-- the town that both read -/
def tw (C S : Int) (s : mm_M) : Prop := (s 9 4 = C) ∧ (s 9 5 = S) ∧ (0 < C ∧ C ≤ 3) ∧ (0 < S ∧ S ≤ 5) ∧ (r_W s)
theorem tw.cc {C S : Int} {s : mm_M} (h : tw C S s) : s 9 4 = C := h.1
theorem tw.ss {C S : Int} {s : mm_M} (h : tw C S s) : s 9 5 = S := h.2.1
theorem tw.c0 {C S : Int} {s : mm_M} (h : tw C S s) : 0 < C ∧ C ≤ 3 := h.2.2.1
theorem tw.s0 {C S : Int} {s : mm_M} (h : tw C S s) : 0 < S ∧ S ≤ 5 := h.2.2.2.1
theorem tw.w {C S : Int} {s : mm_M} (h : tw C S s) : r_W s := h.2.2.2.2
theorem r_W.cp {s s' : mm_M} (h : r_W s) (k : k_W s s') : r_W s' := by
  obtain ⟨w1, w2, w3, w4, w5, w6, w7, w8, w9, w10⟩ := k
  unfold r_W
  rw [w1, w2, w3, w4, w5, w6, w7, w8, w9, w10]
  exact h
theorem agC.kW {s s' : mm_M} (h : agC s s') : k_W s s' := ⟨h.c (fun _ => rfl), h.c (fun _ => rfl), h.c (fun _ => rfl), h.c (fun _ => rfl), h.c (fun _ => rfl), h _ _ rfl, h _ _ rfl, h _ _ rfl, h _ _ rfl, h _ _ rfl⟩
theorem agR.kW {s s' : mm_M} (h : agR s s') : k_W s s' := ⟨h.c (fun _ => rfl), h.c (fun _ => rfl), h.c (fun _ => rfl), h.c (fun _ => rfl), h.c (fun _ => rfl), h _ _ rfl, h _ _ rfl, h _ _ rfl, h _ _ rfl, h _ _ rfl⟩
theorem tw.kW {C S : Int} {s s' : mm_M} (h : tw C S s) (k : k_W s s') : tw C S s' := ⟨by rw [k.1]; exact h.cc, by rw [k.1]; exact h.ss, h.c0, h.s0, h.w.cp k⟩
theorem tw.fC {C S : Int} {s s' : mm_M} (h : tw C S s) (k : agC s s') : tw C S s' := h.kW k.kW
theorem tw.fR {C S : Int} {s s' : mm_M} (h : tw C S s) (k : agR s s') : tw C S s' := h.kW k.kW
theorem Rel.tw {s : mm_M} (hR : Rel s) (h : 0 < s 9 4) : tw (s 9 4) (s 9 5) s := by
  have w := hR.2.1
  refine ⟨rfl, rfl, ⟨h, w.2.1⟩, ⟨?_, w.2.2.2.1⟩, w⟩
  have := w.2.2.2.2.2.2.1
  have := w.2.2.1
  omega
theorem scr_s1 {a : Nat} (h : 29 ≤ a) (h2 : a < 200) {j : Int} : scR a j = false := by
  unfold scR
  rw [scr_shop h h2 j]
  simp only [Bool.false_or, Bool.or_eq_false_iff, Bool.and_eq_false_iff, decide_eq_false_iff_not]
  omega
theorem scr_s2 {a : Nat} (h : 222 ≤ a) (h2 : a < 237) {j : Int} : scC a j = false := by
  unfold scC
  rw [scr_ref h h2 j]
  simp only [Bool.false_or, decide_eq_false_iff_not]
  omega
theorem agR.rep {t t' : mm_M} (h : agR t t') {C S : Int} (hC : C ≤ 3) {T : Sh} (r : rep t 29 C S T) : rep t' 29 C S T := by
  have e : ∀ a : Nat, 29 ≤ a → a < 71 → t' a = t a := fun a h1 h2 => h.c (fun j => scr_s1 h1 (by omega))
  refine ⟨by rw [e _ (by omega) (by omega)]; exact r.mn, by rw [e _ (by omega) (by omega)]; exact r.lot, fun c hc => by rw [e _ (by omega) (by omega), e (29 + 37 + 2 * c) (by omega) (by omega)]; exact r.dk c hc, fun p hp => by rw [e _ (by omega) (by omega)]; exact r.pp p hp, fun j => by rw [e _ (by omega) (by omega)]; exact r.tt j, by rw [e _ (by omega) (by omega)]; exact r.en, fun j => by rw [e _ (by omega) (by omega)]; exact r.bk j⟩
theorem agC.vo {t t' : mm_M} (h : agC t t') : vo t' = vo t := by
  have e : ∀ a : Nat, 225 ≤ a → a ≤ 231 → t' a = t a := fun a h1 h2 => h.c (fun j => scr_s2 (by omega) (by omega))
  unfold Jvm.Pilot.CLastServedLaw_law_r5834_17db7c.vo
  rw [e 225 (by omega) (by omega), e 226 (by omega) (by omega), e 227 (by omega) (by omega), e 228 (by omega) (by omega), e 229 (by omega) (by omega), e 230 (by omega) (by omega), e 231 (by omega) (by omega), h 211 28 rfl, h 211 37 rfl, h 211 35 rfl]
/-- class and reference have done the same to the shop -/
theorem Rel.shop {s s1 s2 : mm_M} (hR : Rel s) (h0 : 0 < s 9 4) {T : Sh} (a : agC s s1) (b : agR s1 s2) (r : rep s1 29 (s 9 4) (s 9 5) T) (w : wf (s 9 4) (s 9 5) T) (v : vo s2 = T) : Rel s2 := by
  have kw : k_W s s2 := by
    obtain ⟨w1, w2, w3, w4, w5, w6, w7, w8, w9, w10⟩ := a.kW
    obtain ⟨v1, v2, v3, v4, v5, v6, v7, v8, v9, v10⟩ := b.kW
    exact ⟨v1.trans w1, v2.trans w2, v3.trans w3, v4.trans w4, v5.trans w5, v6.trans w6, v7.trans w7, v8.trans w8, v9.trans w9, v10.trans w10⟩
  have c : ∀ {x : Nat}, (∀ j, scC x j = false) → (∀ j, scR x j = false) → s2 x = s x := fun h1 h2 => (b.c h2).trans (a.c h1)
  have g : ∀ {x : Nat} {j : Int}, scC x j = false → scR x j = false → s2 x j = s x j := fun h1 h2 => (b _ _ h2).trans (a _ _ h1)
  refine hR.go (Or.inl ?_) kw (Or.inl ?_) (Or.inr ⟨h0, ?_⟩) (Or.inl ?_) (Or.inl ?_) ⟨c (fun _ => rfl) (fun _ => rfl), c (fun _ => rfl) (fun _ => rfl)⟩
  · exact ⟨g rfl rfl, g rfl rfl, c (fun _ => rfl) (fun _ => rfl), c (fun _ => rfl) (fun _ => rfl)⟩
  · exact ⟨g rfl rfl, c (fun _ => rfl) (fun _ => rfl), c (fun _ => rfl) (fun _ => rfl), c (fun _ => rfl) (fun _ => rfl), c (fun _ => rfl) (fun _ => rfl), c (fun _ => rfl) (fun _ => rfl), c (fun _ => rfl) (fun _ => rfl), g rfl rfl⟩
  · have r2 := rs_of (b.rep hR.2.1.2.1 r) w
    unfold r_A
    rw [kw.1]
    rw [← v] at r2
    exact r2
  · have q : ∀ {x : Nat}, 72 ≤ x → x < 199 → ∀ j, scC x j = false := fun {x} h1 h2 j => by
      unfold scC
      rw [scr_shop (by omega) (by omega) j]
      simp only [Bool.false_or, decide_eq_false_iff_not]
      omega
    exact ⟨fun x h1 h2 => c (q h1 h2) (fun j => scr_s1 (by omega) (by omega)), c (fun _ => rfl) (fun _ => rfl), c (fun _ => rfl) (fun _ => rfl), c (fun _ => rfl) (fun _ => rfl)⟩
  · exact ⟨c (fun j => by rfl) (fun _ => rfl), c (fun _ => rfl) (fun _ => rfl), c (fun _ => rfl) (fun _ => rfl), c (fun _ => rfl) (fun _ => rfl), c (fun _ => rfl) (fun _ => rfl), g rfl rfl⟩
