/-! promises 30 and 31: images -/
def eqv (T U : Sh) : Prop := (U.mn = T.mn) ∧ (U.lot = T.lot) ∧ (∀ c, 0 ≤ c → c < 3 → U.st c = T.st c) ∧ (∀ c, 0 ≤ c → c < 3 → U.bu c = T.bu c) ∧ (∀ c, 0 ≤ c → c < 3 → U.ma c = T.ma c) ∧ (∀ j, 0 ≤ j → j < 90 → U.rw j = T.rw j) ∧ (∀ j, 0 ≤ j → j < 210 → U.pe j = T.pe j) ∧ (∀ j, 0 ≤ j → j < 35 → U.t7 j = T.t7 j) ∧ (U.en = T.en) ∧ (∀ j, 0 ≤ j → j < 100 → U.bk j = T.bk j)
theorem eqv.mn {T U : Sh} (h : eqv T U) : U.mn = T.mn := h.1
theorem eqv.lot {T U : Sh} (h : eqv T U) : U.lot = T.lot := h.2.1
theorem eqv.st {T U : Sh} (h : eqv T U) : ∀ c, 0 ≤ c → c < 3 → U.st c = T.st c := h.2.2.1
theorem eqv.bu {T U : Sh} (h : eqv T U) : ∀ c, 0 ≤ c → c < 3 → U.bu c = T.bu c := h.2.2.2.1
theorem eqv.ma {T U : Sh} (h : eqv T U) : ∀ c, 0 ≤ c → c < 3 → U.ma c = T.ma c := h.2.2.2.2.1
theorem eqv.rw {T U : Sh} (h : eqv T U) : ∀ j, 0 ≤ j → j < 90 → U.rw j = T.rw j := h.2.2.2.2.2.1
theorem eqv.pe {T U : Sh} (h : eqv T U) : ∀ j, 0 ≤ j → j < 210 → U.pe j = T.pe j := h.2.2.2.2.2.2.1
theorem eqv.t7 {T U : Sh} (h : eqv T U) : ∀ j, 0 ≤ j → j < 35 → U.t7 j = T.t7 j := h.2.2.2.2.2.2.2.1
theorem eqv.en {T U : Sh} (h : eqv T U) : U.en = T.en := h.2.2.2.2.2.2.2.2.1
theorem eqv.bk {T U : Sh} (h : eqv T U) : ∀ j, 0 ≤ j → j < 100 → U.bk j = T.bk j := h.2.2.2.2.2.2.2.2.2
theorem eqv.wf {C S : Int} {T U : Sh} (hC : C ≤ 3) (hS : S ≤ 5) (h : eqv T U) (w : wf C S T) : wf C S U := by
  have hm : ∀ c, 0 ≤ c → c < C → U.ma c = T.ma c := fun c a b => h.ma c a (by omega)
  have hr : ∀ c k, 0 ≤ c → c < C → 0 ≤ k → k < T.ma c → U.rw (30 * c + k) = T.rw (30 * c + k) := fun c k a b d e => h.rw _ (by omega) (by have := w.ma0 c a b; omega)
  have hp : ∀ p i, 0 ≤ p → p < 30 → 0 ≤ i → i < 7 → U.pe (7 * p + i) = T.pe (7 * p + i) := fun p i a b c d => h.pe _ (by omega) (by omega)
  have hp0 : ∀ p, 0 ≤ p → p < 30 → U.pe (7 * p) = T.pe (7 * p) := fun p a b => h.pe _ (by omega) (by omega)
  refine ⟨by rw [h.mn]; exact w.mn0, by rw [h.lot]; exact w.lo0, fun c a b => by rw [hm c a b]; exact w.ma0 c a b, fun c a b => by rw [h.st c a (by omega)]; exact w.st0 c a b, fun c a b => by rw [h.bu c a (by omega)]; exact w.bu0 c a b, fun c k a b d e => ?_, fun c k k2 a b d e f g => ?_, fun p a b => by rw [hp p 2 a b (by omega) (by omega)]; exact w.ho p a b, fun p a b q => ?_, fun p a b q => ?_, fun c a b => by rw [h.t7 _ (by omega) (by omega)]; exact w.t5 c a b, by rw [h.en]; exact w.en0⟩
  · rw [hm c a b] at e
    have r := w.ro c k a b d e
    rw [hr c k a b d e, hp _ 2 r.1 r.2.1 (by omega) (by omega), hp _ 1 r.1 r.2.1 (by omega) (by omega)]
    exact r
  · rw [hm c a b] at e g
    rw [hr c k a b d e, hr c k2 a b f g]
    exact w.di c k k2 a b d e f g
  · rw [hp p 2 a b (by omega) (by omega)] at q
    have f := w.pf p a b (by omega)
    obtain ⟨k, k1, k2, k3⟩ := w.ins p a b q
    rw [hp p 1 a b (by omega) (by omega)]
    exact ⟨k, k1, by rw [hm _ f.2.2.1 f.2.2.2.1]; exact k2, by rw [hr _ k f.2.2.1 f.2.2.2.1 k1 k2]; exact k3⟩
  · rw [hp p 2 a b (by omega) (by omega)] at q
    rw [hp0 p a b, hp p 1 a b (by omega) (by omega), hp p 3 a b (by omega) (by omega), hp p 4 a b (by omega) (by omega), hp p 5 a b (by omega) (by omega), hp p 6 a b (by omega) (by omega), h.mn]
    exact w.pf p a b q
theorem eqv.rep {s : mm_M} {b : Nat} {C S : Int} {T U : Sh} (hC : C ≤ 3) (hS : S ≤ 5) (h : eqv T U) (w : Jvm.Pilot.CLastServedLaw_law_r5834_17db7c.wf C S T) (r : rep s b C S T) : rep s b C S U := by
  refine ⟨by rw [h.mn]; exact r.mn, by rw [h.lot]; exact r.lot, fun c hc => ?_, fun p hp => ?_, fun j a d => by rw [h.t7 j a (by omega)]; exact r.tt j a d, by rw [h.en]; exact r.en, fun j a d => ?_⟩
  · obtain ⟨d1, d2, d3, d4⟩ := r.dk c hc
    rw [h.ma c (by omega) (by omega), h.st c (by omega) (by omega), h.bu c (by omega) (by omega)]
    refine ⟨d1, d2, d3, fun k a d => ?_⟩
    have m := w.ma0 c (by omega) hc
    rw [h.rw _ (by omega) (by omega)]
    exact d4 k a d
  · rw [h.pe (7 * p + 2) (by omega) (by omega), h.pe (7 * p) (by omega) (by omega), h.pe (7 * p + 1) (by omega) (by omega), h.pe (7 * p + 3) (by omega) (by omega), h.pe (7 * p + 4) (by omega) (by omega), h.pe (7 * p + 5) (by omega) (by omega), h.pe (7 * p + 6) (by omega) (by omega)]
    exact r.pp p hp
  · rw [h.en] at d
    have := w.en0
    rw [h.bk j a (by omega)]
    exact r.bk j a d
def isb (b : Nat) : Prop := b = 29 ∨ b = 72 ∨ b = 114 ∨ b = 156
theorem isb_p : ∀ p, p < 30 → (mm_rt (29 + 1) p = 29 + 6 + p ∧ mm_rt (72 + 1) p = 72 + 6 + p ∧ mm_rt (114 + 1) p = 114 + 6 + p ∧ mm_rt (156 + 1) p = 156 + 6 + p) := by decide +kernel
theorem isb_c : ∀ p, p < 3 → (mm_rt (29 + 2) p = 29 + 36 + 2 * p ∧ mm_rt (72 + 2) p = 72 + 36 + 2 * p ∧ mm_rt (114 + 2) p = 114 + 36 + 2 * p ∧ mm_rt (156 + 2) p = 156 + 36 + 2 * p) ∧ (mm_rt (29 + 36 + 2 * p) 0 = 29 + 37 + 2 * p ∧ mm_rt (72 + 36 + 2 * p) 0 = 72 + 37 + 2 * p ∧ mm_rt (114 + 36 + 2 * p) 0 = 114 + 37 + 2 * p ∧ mm_rt (156 + 36 + 2 * p) 0 = 156 + 37 + 2 * p) := by decide +kernel
theorem isb.rt {b : Nat} (h : isb b) : mm_rt b 3 = b + 1 ∧ mm_rt b 4 = b + 2 ∧ mm_rt b 5 = b + 3 ∧ mm_rt b 6 = b + 4 ∧ mm_rt (b + 4) 0 = b + 5 := by
  rcases h with h | h | h | h <;> subst h <;> decide +kernel
theorem isb.rp {b : Nat} (h : isb b) {p : Nat} (hp : p < 30) : mm_rt (b + 1) p = b + 6 + p := by
  have q := isb_p p hp
  rcases h with h | h | h | h <;> subst h
  · exact q.1
  · exact q.2.1
  · exact q.2.2.1
  · exact q.2.2.2
theorem isb.rc {b : Nat} (h : isb b) {c : Nat} (hc : c < 3) : mm_rt (b + 2) c = b + 36 + 2 * c ∧ mm_rt (b + 36 + 2 * c) 0 = b + 37 + 2 * c := by
  have q := isb_c c hc
  rcases h with h | h | h | h <;> subst h
  · exact ⟨q.1.1, q.2.1⟩
  · exact ⟨q.1.2.1, q.2.2.1⟩
  · exact ⟨q.1.2.2.1, q.2.2.2.1⟩
  · exact ⟨q.1.2.2.2, q.2.2.2.2⟩
theorem cp_c {s : mm_M} {a b x : Nat} {i j n : Int} (h : x ≠ b) : mm_cp s a i b j n x = s x := by
  funext k
  unfold mm_cp
  rw [if_neg (fun z => h z.1)]
theorem cp_e {s : mm_M} {a b : Nat} {n k : Int} (h : 0 ≤ k ∧ k < n) : mm_cp s a 0 b 0 n b k = s a k := by
  unfold mm_cp
  rw [if_pos ⟨rfl, h.1, by omega⟩, show 0 + (k - 0) = k by omega]
/-- one shop takes over another's -/
theorem t_take {s : mm_M} {bt bf : Nat} (h1 : isb bt) (h2 : isb bf) (hn : bf + 42 ≤ bt ∨ bt + 42 ≤ bf) {C S : Int} {T : Sh} (hC : C ≤ 3) (hS : S ≤ 5) (r : rep s bf C S T) (w : wf C S T) {post : mm_M → Prop} (k : ∀ s', rep s' bt C S T → (∀ a : Nat, (a < bt ∨ bt + 42 ≤ a) → s' a = s a) → post s') : wp_X7_takeOver bt bf s post := by
  intro L44 L73 h44 h73 s1 e1 s2 e2
  have rt := h1.rt
  have rf := h2.rt
  unfold wp_X0_takeOver
  rw [rt.2.2.2.1, rf.2.2.2.1, rt.2.2.2.2, rf.2.2.2.2]
  refine ⟨⟨by omega, by omega, by omega, by omega, by omega⟩, fun s3 e3 s4 e4 => ⟨⟨by omega, by omega, by omega, by omega, by omega⟩, fun s5 e5 => ?_⟩⟩
  rw [rt.2.2.1, rf.2.2.1] at e5
  have f2 : s1 bf 8 = s bf 8 := by rw [e1, up_c (by omega)]
  rw [f2] at e2
  have f4 : s3 (bf + 4) 1 = s (bf + 4) 1 := by rw [e3, cp_c (by omega), e2, up_c (by omega), e1, up_c (by omega)]
  rw [f4] at e4
  have i0 : ∀ a : Nat, (a < bt ∨ bt + 42 ≤ a) → s5 a = s a := fun a ha => by
    rw [e5, cp_c (by omega), e4, up_c (by omega), e3, cp_c (by omega), e2, up_c (by omega), e1, up_c (by omega)]
  have i1 : s5 bt 7 = s bf 7 := by rw [e5, cp_c (by omega), e4, up_c (by omega), e3, cp_c (by omega), e2, up_n (Or.inr (by omega)), e1, up_e]
  have i2 : s5 bt 8 = s bf 8 := by rw [e5, cp_c (by omega), e4, up_c (by omega), e3, cp_c (by omega), e2, up_e]
  have i3 : s5 (bt + 4) 1 = s (bf + 4) 1 := by rw [e5, cp_c (by omega), e4, up_e]
  have i4 : ∀ j, 0 ≤ j → j < 100 → s5 (bt + 5) j = s (bf + 5) j := fun j a b => by
    rw [e5, cp_c (by omega), e4, up_c (by omega), e3, cp_e ⟨a, b⟩, e2, up_c (by omega), e1, up_c (by omega)]
  have i5 : ∀ j, 0 ≤ j → j < 35 → s5 (bt + 3) j = s (bf + 3) j := fun j a b => by
    rw [e5, cp_e ⟨a, b⟩, e4, up_c (by omega), e3, cp_c (by omega), e2, up_c (by omega), e1, up_c (by omega)]
  clear e1 e2 e3 e4 e5 f2 f4 s1 s2 s3 s4
  have two : ∀ d x : Nat, x + d = 3 → ∀ u : mm_M, (∀ a : Nat, (a < bt ∨ bt + 42 ≤ a) → u a = s a) → (∀ a : Nat, a < bt + 6 → u a = s5 a) → (∀ q : Nat, q < 30 → ∀ i : Int, 0 ≤ i → i ≤ 6 → u (bt + 6 + q) i = s (bf + 6 + q) i) → (∀ c : Nat, c < x → u (bt + 36 + 2 * c) 1 = s (bf + 36 + 2 * c) 1 ∧ u (bt + 36 + 2 * c) 2 = s (bf + 36 + 2 * c) 2 ∧ u (bt + 36 + 2 * c) 3 = s (bf + 36 + 2 * c) 3 ∧ ∀ k : Int, 0 ≤ k → k < 30 → u (bt + 37 + 2 * c) k = s (bf + 37 + 2 * c) k) → L73 x u := by
    intro d
    induction d with
    | zero =>
      intro x hx u g0 g1 g2 g3
      apply h73
      have e : x = 3 := by omega
      subst e
      refine ⟨fun _ => k u ?_ g0, fun q => absurd (by decide) q⟩
      have en := w.en0
      refine ⟨by rw [g1 bt (by omega), i1]; exact r.mn, by rw [g1 bt (by omega), i2]; exact r.lot, fun c hc => ?_, fun p hp => ?_, fun j a b => by rw [g1 _ (by omega), i5 j a (by omega)]; exact r.tt j a b, by rw [g1 _ (by omega), i3]; exact r.en, fun j a b => by rw [g1 _ (by omega), i4 j a (by omega)]; exact r.bk j a b⟩
      · obtain ⟨a1, a2, a3, a4⟩ := g3 c (by omega)
        have m := w.ma0 c (by omega) hc
        rw [a1, a2, a3]
        obtain ⟨d1, d2, d3, d4⟩ := r.dk c hc
        exact ⟨d1, d2, d3, fun j b1 b2 => by rw [a4 j b1 (by omega)]; exact d4 j b1 b2⟩
      · rw [g2 p hp 0 (by omega) (by omega), g2 p hp 1 (by omega) (by omega), g2 p hp 2 (by omega) (by omega), g2 p hp 3 (by omega) (by omega), g2 p hp 4 (by omega) (by omega), g2 p hp 5 (by omega) (by omega), g2 p hp 6 (by omega) (by omega)]
        exact r.pp p hp
    | succ d ih =>
      intro x hx u g0 g1 g2 g3
      apply h73
      rw [n32_id (x := (x : Int)) (by omega) (by omega)]
      refine ⟨fun q => by omega, fun _ => ⟨⟨by omega, by omega⟩, ⟨by omega, by omega⟩, ?_⟩⟩
      rw [rt.2.1, rf.2.1, show ((x : Int)).toNat = x by omega, (h1.rc (c := x) (by omega)).1, (h2.rc (c := x) (by omega)).1]
      unfold wp_X2_takeOver
      rw [(h1.rc (c := x) (by omega)).2, (h2.rc (c := x) (by omega)).2]
      refine ⟨⟨by omega, by omega, by omega, by omega, by omega⟩, fun u1 e1 u2 e2 u3 e3 u4 e4 y ey => ?_⟩
      have b1 : u1 (bf + 36 + 2 * x) = s (bf + 36 + 2 * x) := by rw [e1, cp_c (by omega), g0 _ (by omega)]
      have b2 : u2 (bf + 36 + 2 * x) = s (bf + 36 + 2 * x) := by rw [e2, up_c (by omega), b1]
      have b3 : u3 (bf + 36 + 2 * x) = s (bf + 36 + 2 * x) := by rw [e3, up_c (by omega), b2]
      rw [b1] at e2
      rw [b2] at e3
      rw [b3] at e4
      rw [ey, show (x : Int) + 1 = ((x + 1 : Nat) : Int) by omega]
      have o : ∀ a : Nat, a ≠ bt + 36 + 2 * x → a ≠ bt + 37 + 2 * x → u4 a = u a := fun a a1 a2 => by rw [e4, up_c a1, e3, up_c a1, e2, up_c a1, e1, cp_c a2]
      refine ih (x + 1) (by omega) u4 (fun a ha => by rw [o a (by omega) (by omega)]; exact g0 a ha) (fun a ha => by rw [o a (by omega) (by omega)]; exact g1 a ha) (fun q hq i j1 j2 => by rw [o _ (by omega) (by omega)]; exact g2 q hq i j1 j2) (fun c hc => ?_)
      by_cases q : c = x
      · subst q
        refine ⟨by rw [e4, up_n (Or.inr (by omega)), e3, up_n (Or.inr (by omega)), e2, up_e], by rw [e4, up_n (Or.inr (by omega)), e3, up_e], by rw [e4, up_e], fun j j1 j2 => ?_⟩
        rw [e4, up_c (by omega), e3, up_c (by omega), e2, up_c (by omega), e1, cp_e ⟨j1, j2⟩, g0 _ (by omega)]
      · rw [o _ (by omega) (by omega), o (bt + 37 + 2 * c) (by omega) (by omega)]
        exact g3 c (by omega)
  have one : ∀ d x : Nat, x + d = 30 → ∀ u : mm_M, (∀ a : Nat, (a < bt ∨ bt + 42 ≤ a) → u a = s a) → (∀ a : Nat, a < bt + 6 → u a = s5 a) → (∀ q : Nat, q < x → ∀ i : Int, 0 ≤ i → i ≤ 6 → u (bt + 6 + q) i = s (bf + 6 + q) i) → L44 x u := by
    intro d
    induction d with
    | zero =>
      intro x hx u g0 g1 g2
      apply h44
      have e : x = 30 := by omega
      subst e
      exact ⟨fun _ => two 3 0 rfl u g0 g1 g2 (fun c hc => by omega), fun q => absurd (by decide) q⟩
    | succ d ih =>
      intro x hx u g0 g1 g2
      apply h44
      rw [n32_id (x := (x : Int)) (by omega) (by omega)]
      refine ⟨fun q => by omega, fun _ => ⟨⟨by omega, by omega⟩, ⟨by omega, by omega⟩, ?_⟩⟩
      rw [rt.1, rf.1, show ((x : Int)).toNat = x by omega, h1.rp (p := x) (by omega), h2.rp (p := x) (by omega)]
      intro u1 e1 u2 e2 u3 e3 u4 e4 u5 e5 u6 e6 u7 e7 y ey
      have hb : bf + 6 + x ≠ bt + 6 + x := by omega
      have b0 : u (bf + 6 + x) = s (bf + 6 + x) := g0 _ (by omega)
      have b1 : u1 (bf + 6 + x) = s (bf + 6 + x) := by rw [e1, up_c hb, b0]
      have b2 : u2 (bf + 6 + x) = s (bf + 6 + x) := by rw [e2, up_c hb, b1]
      have b3 : u3 (bf + 6 + x) = s (bf + 6 + x) := by rw [e3, up_c hb, b2]
      have b4 : u4 (bf + 6 + x) = s (bf + 6 + x) := by rw [e4, up_c hb, b3]
      have b5 : u5 (bf + 6 + x) = s (bf + 6 + x) := by rw [e5, up_c hb, b4]
      have b6 : u6 (bf + 6 + x) = s (bf + 6 + x) := by rw [e6, up_c hb, b5]
      rw [b0] at e1
      rw [b1] at e2
      rw [b2] at e3
      rw [b3] at e4
      rw [b4] at e5
      rw [b5] at e6
      rw [b6] at e7
      rw [ey, show (x : Int) + 1 = ((x + 1 : Nat) : Int) by omega]
      have o : ∀ a : Nat, a ≠ bt + 6 + x → u7 a = u a := fun a ha => by rw [e7, up_c ha, e6, up_c ha, e5, up_c ha, e4, up_c ha, e3, up_c ha, e2, up_c ha, e1, up_c ha]
      refine ih (x + 1) (by omega) u7 (fun a ha => by rw [o a (by omega)]; exact g0 a ha) (fun a ha => by rw [o a (by omega)]; exact g1 a ha) (fun q hq i j1 j2 => ?_)
      by_cases qq : q = x
      · subst qq
        rw [e7, e6, e5, e4, e3, e2, e1]
        unfold mm_up
        clear e1 e2 e3 e4 e5 e6 e7 b0 b1 b2 b3 b4 b5 b6
        have hi : i = 0 ∨ i = 1 ∨ i = 2 ∨ i = 3 ∨ i = 4 ∨ i = 5 ∨ i = 6 := by omega
        rcases hi with h | h | h | h | h | h | h <;> subst h <;> simp
      · rw [o _ (by omega)]
        exact g2 q (by omega) i j1 j2
  exact one 30 0 rfl s5 i0 (fun _ _ => rfl) (fun q hq => by omega)
