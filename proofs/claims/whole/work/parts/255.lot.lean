/-! the reference's lot -/
/-- when the counter is free behind a set, where it is known -/
def fok (s u : mm_M) (n : Nat) : Prop := ∀ W : Nat, W < 2 ^ n → u 244 (W : Int) = -1 ∨ (u 244 (W : Int) = hF (s 200) (s 201) W n ∧ iv (s 200) (s 201) n W)
def tW (s : mm_M) (n W : Nat) : Int := tmv (s 200) W n (hF (s 200) (s 201) W n)
def rch (s u : mm_M) (n x : Nat) : Prop := ∀ W : Nat, W < x → W < 2 ^ n → u 244 (W : Int) ≠ -1 → ∀ w : Nat, w < n → W.testBit w = false → s 200 w ≤ tW s n W → u 244 ((W ||| 2 ^ w : Nat) : Int) ≠ -1
theorem tW_e {s : mm_M} {n W : Nat} (hf : fst0 W n < n) : tW s n W = m2 (hF (s 200) (s 201) W n) (s 200 (fst0 W n)) := by unfold tW tmv; rw [if_pos hf]
theorem u_lot {s t : mm_M} {n : Nat} (c : cM s t n) (hn : 0 < n) {post : Int → mm_M → Prop} (hp : ∀ u, ag s u → post (mv (s 200) (s 201) n 0) u) : wp_X11_lot 211 t post := by
  have n8 := c.1.2.1
  have sr := c.1.2
  have ba := b_all n (by omega)
  have b1 := ba.2.2.2.2 hn
  have b0 := ba.2.2.1
  intro L20 L47 L80 L142 L177 h20 h47 h80 h142 h177
  rw [c.2.1, n32_id (x := (n : Int)) (by omega) (by omega), ba.1]
  refine ⟨fun _ v1 e1 => ?_, fun q => by omega⟩
  rw [e1]
  have g5 : ∀ {a b : mm_M}, ag s a → ∀ {j v : Int}, b = mm_up a 244 j v → ag s b := fun h _ _ e => by rw [e]; exact h.up rfl
  -- from the end backwards
  have back : ∀ x : Nat, x < 2 ^ n → ∀ u, cM s u n → fok s u n → rch s u n (2 ^ n - 1) → u 244 0 ≠ -1 → (∀ W : Nat, x ≤ W → W < 2 ^ n → u 244 (W : Int) ≠ -1 → u 245 (W : Int) = mv (s 200) (s 201) n W) → L142 ((x : Int) - 1) u := by
    intro x
    induction x with
    | zero =>
      intro hx u cu fu ru z0 hu
      apply h142
      rw [show mm_rt 211 57 = 245 from rfl]
      refine ⟨fun _ => ?_, fun q => absurd (by decide) q⟩
      have u0 : u 245 0 = mv (s 200) (s 201) n 0 := hu 0 (Nat.le_refl 0) hx z0
      rw [u0]
      exact hp u cu.2.2.2
    | succ x ih =>
      intro hx u cu fo ru z0 hu
      have f := b_fst n (by omega) x (by omega) (by omega)
      apply h142
      rw [show ((x + 1 : Nat) : Int) - 1 = (x : Int) by omega, n32_id (x := (x : Int)) (by omega) (by omega), show mm_rt 211 56 = 244 from rfl]
      refine ⟨fun q => by omega, fun _ => ⟨⟨by omega, by omega⟩, fun q => ⟨⟨by omega, by omega⟩, ?_⟩, fun q v2 e2 => ?_⟩⟩
      · have hr := hF_r (V := x) sr n (Nat.le_refl n)
        rcases fo x (by omega) with z | z
        · rw [z] at q; exact absurd (by decide) q
        rw [z.1]
        refine u_minR cu (by omega) ⟨hr.1, by omega⟩ f (fun u1 f1 i1 v3 e3 => ?_)
        have c1 := f1.ag.cM cu
        have et : tmv (s 200) x n (hF (s 200) (s 201) x n) = tW s n x := rfl
        rw [et] at i1 e3
        rw [e3]
        have pos : 0 < (gth (s 200) x (tW s n x) n).1 := gth_tm (V := x) (now := hF (s 200) (s 201) x n) sr f
        have go := gth_ok (ca := s 200) (V := x) (t := tW s n x) n
        have tr : 0 ≤ tW s n x ∧ tW s n x ≤ 360 := tm_r (V := x) sr
        have e244 : u1 244 = u 244 := f1.c (by decide) (by decide)
        have e245 : u1 245 = u 245 := f1.c (by decide) (by decide)
        have gb : ∀ p : Nat, p < (gth (s 200) x (tW s n x) n).1.toNat → 0 ≤ (fun p => gv (s 200) (s 201) n x ((gth (s 200) x (tW s n x) n).2 p)) p ∧ (fun p => gv (s 200) (s 201) n x ((gth (s 200) x (tW s n x) n).2 p)) p ≤ 3600000 := by
          intro p hp
          have w := go.2.2 p (by omega) (by omega)
          exact gv_r sr ⟨w.1, w.2.1⟩ w.2.2.2
        have tb := tot_r (f := fun p => gv (s 200) (s 201) n x ((gth (s 200) x (tW s n x) n).2 p)) (B := 3600000) gb (gth (s 200) x (tW s n x) n).1.toNat (Nat.le_refl _)
        have loop : ∀ d p : Nat, (p : Int) + d = (gth (s 200) x (tW s n x) n).1 → L177 x (tW s n x) (tot (fun p => gv (s 200) (s 201) n x ((gth (s 200) x (tW s n x) n).2 p)) p) p u1 := by
          intro d
          induction d with
          | zero =>
            intro p hx2
            apply h177
            rw [i1.1, n32_id (x := (gth (s 200) x (tW s n x) n).1) (by omega) (by omega), n32_id (x := (p : Int)) (by omega) (by omega), n64_id (x := (gth (s 200) x (tW s n x) n).1) (by omega) (by omega), show mm_rt 211 57 = 245 from rfl]
            have ep : p = (gth (s 200) x (tW s n x) n).1.toNat := by omega
            refine ⟨fun _ => ⟨by omega, ⟨by omega, by omega⟩, fun s23 e23 v2 e2 => ?_⟩, fun q => by omega⟩
            have em : mv (s 200) (s 201) n x = Int.tdiv (n64 (tot (fun p => gv (s 200) (s 201) n x ((gth (s 200) x (tW s n x) n).2 p)) p)) (gth (s 200) x (tW s n x) n).1 := by
              rw [ep, n64_id (by omega) (by omega), mv_s f, sg_tot]
              rfl
            rw [← em] at e23
            have a23 : ag u1 s23 := by rw [e23]; exact ag.rf.up rfl
            have s244 : s23 244 = u 244 := by rw [e23, up_c (by decide), e244]
            rw [e2]
            refine ih (by omega) s23 (a23.cM c1) ?_ ?_ ?_ ?_
            · unfold fok; rw [s244]; exact fo
            · unfold rch; rw [s244]; exact ru
            · rw [s244]; exact z0
            · intro W w1 w2 w3
              rw [s244] at w3
              rw [e23]
              by_cases y : W = x
              · rw [y, up_e]
              · rw [up_n (Or.inr (by omega)), e245]
                exact hu W (by omega) w2 w3
          | succ d ih2 =>
            intro p hx2
            have w := go.2.2 p (by omega) (by omega)
            have ep := i1.2 p (by omega) (by omega)
            have bo := b_or x (by omega) ((gth (s 200) x (tW s n x) n).2 p).toNat (by omega)
            rw [show ((((gth (s 200) x (tW s n x) n).2 p).toNat : Nat) : Int) = (gth (s 200) x (tW s n x) n).2 p by omega] at bo
            have cw := sr.2 _ w.1 w.2.1
            have big := b_big x (by omega) ((gth (s 200) x (tW s n x) n).2 p).toNat (by omega) w.2.2.1
            have lim := b_or2 (n := n) (V := x) (k := ((gth (s 200) x (tW s n x) n).2 p).toNat) (by omega) (by omega)
            have nz : u 244 ((x ||| 2 ^ ((gth (s 200) x (tW s n x) n).2 p).toNat : Nat) : Int) ≠ -1 := by
              refine ru x (by omega) (by omega) (by rw [z.1]; omega) _ (by omega) w.2.2.1 ?_
              rw [show ((((gth (s 200) x (tW s n x) n).2 p).toNat : Nat) : Int) = (gth (s 200) x (tW s n x) n).2 p by omega]
              exact w.2.2.2
            have fo := hu _ (by omega) lim nz
            apply h177
            rw [i1.1, n32_id (x := (gth (s 200) x (tW s n x) n).1) (by omega) (by omega), n32_id (x := (p : Int)) (by omega) (by omega), show mm_rt 211 50 = 241 from rfl, show mm_rt 211 39 = 232 from rfl, show mm_rt 211 57 = 245 from rfl, ep, bo.1, (c1.2.2.1 _ w.1 w.2.1).1, e245, fo]
            rw [n32_id (x := 1000 * (tW s n x - s 200 ((gth (s 200) x (tW s n x) n).2 p))) (by omega) (by omega)]
            refine ⟨fun q => by omega, fun _ => ⟨⟨by omega, by omega⟩, ⟨by omega, by omega⟩, ⟨by omega, by omega⟩, ⟨by omega, by omega⟩, fun v4 e4 v6 e6 => ?_⟩⟩
            have nx := ih2 (p + 1) (by omega)
            rw [tot, show ((p + 1 : Nat) : Int) = (p : Int) + 1 by omega] at nx
            rw [e4, e6]
            exact nx
        exact loop (gth (s 200) x (tW s n x) n).1.toNat 0 (by omega)
      · rw [e2]
        refine ih (by omega) u cu fo ru z0 (fun W w1 w2 w3 => ?_)
        by_cases y : W = x
        · subst y
          have z : u 244 (W : Int) = -1 := by
            rcases fo W (by omega) with z | z
            · exact z
            · have hr := hF_r (V := W) sr n (Nat.le_refl n)
              rw [z.1, n32_id (by omega) (by omega)] at q
              omega
          exact absurd z w3
        · exact hu W (by omega) w2 w3
  -- forwards
  have forw : ∀ d x : Nat, x + d = 2 ^ n - 1 → ∀ u, cM s u n → fok s u n → rch s u n x → u 244 0 ≠ -1 → L47 ((2 ^ n - 1 : Nat) : Int) x u := by
    intro d
    induction d with
    | zero =>
      intro x hx u cu fo ru z0
      apply h47
      rw [n32_id (x := ((2 ^ n - 1 : Nat) : Int)) (by omega) (by omega), n32_id (x := (x : Int)) (by omega) (by omega), show mm_rt 211 57 = 245 from rfl]
      refine ⟨fun _ => ⟨⟨by omega, by omega⟩, fun s7 e7 v2 e2 => ?_⟩, fun q => by omega⟩
      have a7 : ag u s7 := by rw [e7]; exact ag.rf.up rfl
      have s244 : s7 244 = u 244 := by rw [e7, up_c (by decide)]
      have ex : x = 2 ^ n - 1 := by omega
      rw [ex] at ru
      rw [e2]
      refine back (2 ^ n - 1) (by omega) s7 (a7.cM cu) (by unfold fok; rw [s244]; exact fo) (by unfold rch; rw [s244]; exact ru) (by rw [s244]; exact z0) (fun W w1 w2 w3 => ?_)
      have : W = 2 ^ n - 1 := by omega
      rw [this, e7, up_e]
      have q : cnV (2 ^ n - 1) n = n := by
        have : ∀ m : Nat, m < 9 → cnV (2 ^ m - 1) m = m := by decide +kernel
        exact this n (by omega)
      unfold mv
      rw [q, show ((n : Int) - n).toNat = 0 by omega]
      rfl
    | succ d ih =>
      intro x hx u cu fo ru z0
      have f := b_fst n (by omega) x (by omega) (by omega)
      have nx := ih (x + 1) (by omega)
      rw [show ((x + 1 : Nat) : Int) = (x : Int) + 1 by omega] at nx
      apply h47
      rw [n32_id (x := ((2 ^ n - 1 : Nat) : Int)) (by omega) (by omega), n32_id (x := (x : Int)) (by omega) (by omega), show mm_rt 211 56 = 244 from rfl]
      refine ⟨fun q => by omega, fun _ => ⟨⟨by omega, by omega⟩, fun q => ⟨⟨by omega, by omega⟩, ?_⟩, fun q v2 e2 => ?_⟩⟩
      · have hr := hF_r (V := x) sr n (Nat.le_refl n)
        rcases fo x (by omega) with z | z
        · rw [z] at q; exact absurd (by decide) q
        rw [z.1]
        refine u_minR cu (by omega) ⟨hr.1, by omega⟩ f (fun u1 f1 i1 v3 e3 => ?_)
        have c1 := f1.ag.cM cu
        have et : tmv (s 200) x n (hF (s 200) (s 201) x n) = tW s n x := rfl
        rw [et] at i1 e3
        rw [e3]
        have go := gth_ok (ca := s 200) (V := x) (t := tW s n x) n
        have tr : 0 ≤ tW s n x ∧ tW s n x ≤ 360 := tm_r (V := x) sr
        have e244 : u1 244 = u 244 := f1.c (by decide) (by decide)
        have loop : ∀ d p : Nat, (p : Int) + d = (gth (s 200) x (tW s n x) n).1 → ∀ w, (∀ a : Nat, a ≠ 244 → w a = u1 a) → fok s w n → (∀ W : Nat, u 244 (W : Int) ≠ -1 → w 244 (W : Int) ≠ -1) → (∀ W : Nat, W ≤ x → w 244 (W : Int) = u 244 (W : Int)) → (∀ i : Nat, i < p → w 244 ((x ||| 2 ^ ((gth (s 200) x (tW s n x) n).2 i).toNat : Nat) : Int) ≠ -1) → L80 ((2 ^ n - 1 : Nat) : Int) x (tW s n x) p w := by
          intro d
          induction d with
          | zero =>
            intro p hx2 w fw fo2 k1 k3 k2
            have cw : cM s w n := (show ag u1 w from fun a j y => by
              by_cases z : a = 244
              · rw [z] at y; cases (show scr 244 j = true from rfl).symm.trans y
              · rw [fw a z]).cM c1
            apply h80
            rw [fw 211 (by decide), i1.1, n32_id (x := (gth (s 200) x (tW s n x) n).1) (by omega) (by omega), n32_id (x := (p : Int)) (by omega) (by omega)]
            refine ⟨fun _ v2 e2 => ?_, fun q => by omega⟩
            rw [e2]
            refine nx w cw fo2 (fun W w1 w2 w3 b hb hb2 hb3 => ?_) (k1 0 z0)
            by_cases y : W = x
            · subst y
              have at1 := gth_at hb ⟨hb2, hb3⟩
              have lt := (gth_st (ca := s 200) (V := W) (t := tW s n W) (show b + 1 ≤ n from hb)).1
              rw [gth_y ⟨hb2, hb3⟩] at lt
              have lt : (gth (s 200) W (tW s n W) b).1 + 1 ≤ (gth (s 200) W (tW s n W) n).1 := lt
              have nn := (gth_ok (ca := s 200) (V := W) (t := tW s n W) b).1
              have := k2 (gth (s 200) W (tW s n W) b).1.toNat (by omega)
              rw [show (((gth (s 200) W (tW s n W) b).1.toNat : Nat) : Int) = (gth (s 200) W (tW s n W) b).1 by omega, at1, show ((b : Int)).toNat = b by omega] at this
              exact this
            · rw [k3 W (by omega)] at w3
              exact k1 _ (ru W (by omega) w2 w3 b hb hb2 hb3)
          | succ d ih2 =>
            intro p hx2 w fw fo2 k1 k3 k2
            have g := go.2.2 p (by omega) (by omega)
            have ep : w 241 (p : Int) = (gth (s 200) x (tW s n x) n).2 p := by rw [fw 241 (by decide)]; exact i1.2 p (by omega) (by omega)
            have bo := b_or x (by omega) ((gth (s 200) x (tW s n x) n).2 p).toNat (by omega)
            have en : ((((gth (s 200) x (tW s n x) n).2 p).toNat : Nat) : Int) = (gth (s 200) x (tW s n x) n).2 p := by omega
            rw [en] at bo
            have cw := sr.2 _ g.1 g.2.1
            have big := b_big x (by omega) ((gth (s 200) x (tW s n x) n).2 p).toNat (by omega) g.2.2.1
            have lim := b_or2 (n := n) (V := x) (k := ((gth (s 200) x (tW s n x) n).2 p).toNat) (by omega) (by omega)
            have hin := hF_in (w := ((gth (s 200) x (tW s n x) n).2 p).toNat) sr z.2 (by omega) g.2.2.1 (by rw [en, ← tW_e f]; exact g.2.2.2)
            rw [en, ← tW_e f] at hin
            have e40 : w 233 ((gth (s 200) x (tW s n x) n).2 p) = s 201 ((gth (s 200) x (tW s n x) n).2 p) := by rw [fw 233 (by decide)]; exact (c1.2.2.1 _ g.1 g.2.1).2
            apply h80
            rw [fw 211 (by decide), i1.1, n32_id (x := (gth (s 200) x (tW s n x) n).1) (by omega) (by omega), n32_id (x := (p : Int)) (by omega) (by omega), show mm_rt 211 50 = 241 from rfl, show mm_rt 211 40 = 233 from rfl, show mm_rt 211 56 = 244 from rfl, ep, bo.1, e40]
            refine ⟨fun q => by omega, fun _ => ⟨⟨by omega, by omega⟩, ⟨by omega, by omega⟩, ⟨by omega, by omega⟩, ⟨by omega, by omega⟩, fun s21 e21 v4 e4 => ?_⟩⟩
            have hr2 := hF_r (V := x ||| 2 ^ ((gth (s 200) x (tW s n x) n).2 p).toNat) sr n (Nat.le_refl n)
            rw [← hin.1] at e21
            have nx2 := ih2 (p + 1) (by omega) s21 (fun a ha => by rw [e21, up_c ha]; exact fw a ha) (fun W hW => ?_) (fun W hW => ?_) (fun W hW => ?_) (fun i hi => ?_)
            · rw [show ((p + 1 : Nat) : Int) = (p : Int) + 1 by omega] at nx2
              rw [e4]
              exact nx2
            · rw [e21]
              by_cases y : W = x ||| 2 ^ ((gth (s 200) x (tW s n x) n).2 p).toNat
              · right
                rw [← y] at hin ⊢
                rw [up_e]
                exact ⟨rfl, hin.2⟩
              · rw [up_n (Or.inr (by omega))]
                exact fo2 W hW
            · rw [e21]
              by_cases y : W = x ||| 2 ^ ((gth (s 200) x (tW s n x) n).2 p).toNat
              · rw [← y, up_e, y]; omega
              · rw [up_n (Or.inr (by omega))]
                exact k1 W hW
            · rw [e21, up_n (Or.inr (by omega))]
              exact k3 W hW
            · rw [e21]
              by_cases y : x ||| 2 ^ ((gth (s 200) x (tW s n x) n).2 i).toNat = x ||| 2 ^ ((gth (s 200) x (tW s n x) n).2 p).toNat
              · rw [y, up_e]; omega
              · rw [up_n (Or.inr (by omega))]
                exact k2 i (by
                  by_cases y2 : i = p
                  · rw [y2] at y; exact absurd rfl y
                  · omega)
        exact loop (gth (s 200) x (tW s n x) n).1.toNat 0 (by omega) u1 (fun _ _ => rfl) (by unfold fok; rw [e244]; exact fo) (fun W h => by rw [e244]; exact h) (fun W _ => by rw [e244]) (fun i hi => by omega)
      · rw [e2]
        refine nx u cu fo (fun W w1 w2 w3 b hb hb2 hb3 => ?_) z0
        by_cases y : W = x
        · subst y
          have z : u 244 (W : Int) = -1 := by
            rcases fo W (by omega) with z | z
            · exact z
            · have hr := hF_r (V := W) sr n (Nat.le_refl n)
              rw [z.1, n32_id (by omega) (by omega)] at q
              omega
          exact absurd z w3
        · exact ru W (by omega) w2 w3 b hb hb2 hb3
  have ini : ∀ d x : Nat, x + d = 2 ^ n → ∀ u, cM s u n → (∀ W : Nat, W < x → u 244 (W : Int) = -1) → L20 ((2 ^ n - 1 : Nat) : Int) x u := by
    intro d
    induction d with
    | zero =>
      intro x hx u cu hu
      apply h20
      rw [n32_id (x := ((2 ^ n - 1 : Nat) : Int)) (by omega) (by omega), n32_id (x := (x : Int)) (by omega) (by omega), show mm_rt 211 56 = 244 from rfl]
      refine ⟨fun _ s3 e3 => ?_, fun q => by omega⟩
      have a3 : ag u s3 := by rw [e3]; exact ag.rf.up rfl
      refine forw (2 ^ n - 1) 0 (by omega) s3 (a3.cM cu) (fun W hW => ?_) (fun W w1 => by omega) (by rw [e3, up_e]; omega)
      rw [e3]
      by_cases y : W = 0
      · right
        subst y
        have z : ∀ m : Nat, hF (s 200) (s 201) 0 m = 0 := by
          intro m
          induction m with
          | zero => rfl
          | succ m ih => rw [hF_n (Nat.zero_testBit m)]; exact ih
        refine ⟨by rw [z]; exact up_e, fun i hi hv => ?_⟩
        rw [Nat.zero_testBit] at hv
        cases hv
      · left
        rw [up_n (Or.inr (by omega))]
        exact hu W (by omega)
    | succ d ih =>
      intro x hx u cu hu
      apply h20
      rw [n32_id (x := ((2 ^ n - 1 : Nat) : Int)) (by omega) (by omega), n32_id (x := (x : Int)) (by omega) (by omega), show mm_rt 211 56 = 244 from rfl]
      refine ⟨fun q => by omega, fun _ => ⟨⟨by omega, by omega⟩, fun s5 e5 v2 e2 => ?_⟩⟩
      have a5 : ag u s5 := by rw [e5]; exact ag.rf.up rfl
      rw [e2, show (x : Int) + 1 = ((x + 1 : Nat) : Int) by omega]
      refine ih (x + 1) (by omega) s5 (a5.cM cu) (fun W hW => ?_)
      rw [e5]
      by_cases y : W = x
      · rw [y, up_e]
      · rw [up_n (Or.inr (by omega))]
        exact hu W (by omega)
  exact ini (2 ^ n) 0 (by omega) t c (fun W hW => by omega)
/-- promise 20 -/
theorem q_lot {s : mm_M} (hR : Rel s) (post : Int → mm_M → Prop) (hp : ∀ r1 s1, Gd (wp_X11_lot 211 s1) r1 → post r1 s1) : wp_X10_lot 0 s post := by
  obtain ⟨n, en, n8, c⟩ := hR.cM
  unfold wp_X10_lot
  rw [show mm_rt 0 8 = 199 from rfl, en, n32_id (x := (n : Int)) (by omega) (by omega)]
  refine ⟨fun q => t_lot c.1 (by omega) (fun u au => hp _ _ (fun p2 k2 => u_lot (au.cM c) (by omega) (fun v av => k2 _ _ rfl (hR.fr av)))), fun q => hp _ _ (fun p2 k2 => ?_)⟩
  intro L20 L47 L80 L142 L177 h20 h47 h80 h142 h177
  rw [c.2.1, n32_id (x := (n : Int)) (by omega) (by omega)]
  exact ⟨fun z => by omega, fun _ => k2 _ _ rfl hR⟩
