theorem bk_mn {T : Sh} {a1 a2 a3 a4 a5 : Int} : (bkT T a1 a2 a3 a4 a5).mn = T.mn := by unfold bkT; exact sd_mn
theorem bk_lot {T : Sh} {a1 a2 a3 a4 a5 : Int} : (bkT T a1 a2 a3 a4 a5).lot = T.lot := by unfold bkT; exact sd_lot
theorem bk_st {T : Sh} {a1 a2 a3 a4 a5 : Int} : (bkT T a1 a2 a3 a4 a5).st = T.st := by unfold bkT; exact sd_st
theorem bk_bu {T : Sh} {a1 a2 a3 a4 a5 : Int} : (bkT T a1 a2 a3 a4 a5).bu = T.bu := by unfold bkT; exact sd_bu
theorem bk_ma {T : Sh} {a1 a2 a3 a4 a5 : Int} : (bkT T a1 a2 a3 a4 a5).ma = T.ma := by unfold bkT; exact sd_ma
theorem bk_rw {T : Sh} {a1 a2 a3 a4 a5 : Int} : (bkT T a1 a2 a3 a4 a5).rw = T.rw := by unfold bkT; exact sd_rw
theorem bk_pe {T : Sh} {a1 a2 a3 a4 a5 : Int} : (bkT T a1 a2 a3 a4 a5).pe = T.pe := by unfold bkT; exact sd_pe
theorem bk_t7 {T : Sh} {a1 a2 a3 a4 a5 : Int} : (bkT T a1 a2 a3 a4 a5).t7 = T.t7 := by unfold bkT; exact sd_t7
theorem drw_mn {T : Sh} : (drwT T).mn = T.mn := by unfold drwT; exact sd_mn
theorem drw_st {T : Sh} : (drwT T).st = T.st := by unfold drwT; exact sd_st
theorem drw_bu {T : Sh} : (drwT T).bu = T.bu := by unfold drwT; exact sd_bu
theorem drw_ma {T : Sh} : (drwT T).ma = T.ma := by unfold drwT; exact sd_ma
theorem drw_rw {T : Sh} : (drwT T).rw = T.rw := by unfold drwT; exact sd_rw
theorem drw_pe {T : Sh} : (drwT T).pe = T.pe := by unfold drwT; exact sd_pe
theorem drw_t7 {T : Sh} : (drwT T).t7 = T.t7 := by unfold drwT; exact sd_t7
theorem drw_en {T : Sh} : (drwT T).en = T.en := by unfold drwT; exact sd_en
theorem drw_bk {T : Sh} : (drwT T).bk = T.bk := by unfold drwT; exact sd_bk
theorem tic_lot {T : Sh} : (ticT T).lot = T.lot := by unfold ticT; exact sd_lot
theorem tic_st {T : Sh} : (ticT T).st = T.st := by unfold ticT; exact sd_st
theorem tic_bu {T : Sh} : (ticT T).bu = T.bu := by unfold ticT; exact sd_bu
theorem tic_ma {T : Sh} : (ticT T).ma = T.ma := by unfold ticT; exact sd_ma
theorem tic_rw {T : Sh} : (ticT T).rw = T.rw := by unfold ticT; exact sd_rw
theorem tic_pe {T : Sh} : (ticT T).pe = T.pe := by unfold ticT; exact sd_pe
theorem tic_t7 {T : Sh} : (ticT T).t7 = T.t7 := by unfold ticT; exact sd_t7
theorem tic_en {T : Sh} : (ticT T).en = T.en := by unfold ticT; exact sd_en
theorem tic_bk {T : Sh} : (ticT T).bk = T.bk := by unfold ticT; exact sd_bk
set_option maxHeartbeats 4000000 in
theorem u_serve {C S : Int} {s t : mm_M} {T : Sh} {c : Int} (hW : tw C S s) (hL : r_L s) (k : kd s t) (e : vo t = T) (w : wf C S T) (hc : 0 ≤ c ∧ c < C) (yes : T.bu c ≤ T.mn ∧ 0 < T.st c ∧ 0 < T.ma c) {post : mm_M → Prop} (hp : ∀ u, vo u = srvT s c T → agR t u → post u) : wp_X11_serves 211 c t post := by
  have c0 := hW.c0
  have s0 := hW.s0
  have m := w.ma0 c hc.1 hc.2
  have ct := hW.w.ct hc.1 (by rw [hW.cc]; exact hc.2)
  intro L35 L86 L125 h35 h86 h125
  have ser : ∀ (U : Sh) (x : Int) (u : mm_M), vo u = U → wf C S U → agR t u → U.ma c = T.ma c → 0 ≤ x → x < T.ma c → srvT s c T = serT s c x U → L35 (T.ma c) x u := by
    intro U x u vu wu aa em x1 x2 eT
    have ro := wu.ro c x hc.1 hc.2 x1 (by omega)
    have pf := wu.pf _ ro.1 ro.2.1 (by omega)
    have t5 := wu.t5 _ pf.1 pf.2.1
    have mu := wu.mn0
    have en0 := wu.en0
    have e8 : u 228 (30 * c + x) = U.rw (30 * c + x) := by rw [← vu]; rfl
    apply h35
    intro v4 e4
    rw [e4, show mm_rt 211 32 = 228 from rfl, e8]
    refine ⟨⟨by omega, by omega⟩, fun v5 e5 => ?_⟩
    rw [e5]
    refine u_of0 vu ⟨ro.1, ro.2.1⟩ ?_
    intro v6 e6
    refine u_of vu (by omega) ?_
    intro v7 e7
    have m28 : u 211 28 = U.mn := by rw [← vu]; rfl
    have e35 : u 211 35 = U.en := by rw [← vu]; rfl
    rw [m28] at e7
    -- the entry is written
    have wr : ∀ (u1 : mm_M) (n : Int) (f : Int → Int), vo u1 = (⟨U.mn, U.lot, U.st, U.bu, U.ma, U.rw, U.pe, U.t7, n, f⟩ : Sh) → agR t u1 → 0 ≤ n → n < 20 → bkT U U.mn c (U.rw (30 * c + x)) (U.ma c) x = (⟨U.mn, U.lot, U.st, U.bu, U.ma, U.rw, U.pe, U.t7, n + 1, fu (fu (fu (fu (fu f (5 * n) U.mn) (5 * n + 1) c) (5 * n + 2) (U.rw (30 * c + x))) (5 * n + 3) (U.ma c)) (5 * n + 4) x⟩ : Sh) → L125 (T.ma c) x (U.rw (30 * c + x)) v6 v7 u1 := by
      intro u1 n f v1 a1 n0 n1 eb
      apply h125
      intro v8 e8'
      have g35 : u1 211 35 = n := by
        have : (vo u1).en = n := by rw [v1]; rfl
        exact this
      have g28 : u1 211 28 = U.mn := by
        have : (vo u1).mn = U.mn := by rw [v1]; rfl
        exact this
      have g231 : u1 231 = f := by
        have : (vo u1).bk = f := by rw [v1]; rfl
        exact this
      rw [g35] at e8'
      rw [e8', g28, show mm_rt 211 36 = 231 from rfl]
      refine ⟨⟨by omega, by omega⟩, fun s17 e17 => ⟨⟨by omega, by omega⟩, fun s18 e18 => ⟨⟨by omega, by omega⟩, fun s19 e19 => ⟨⟨by omega, by omega⟩, fun s20 e20 => ⟨⟨by omega, by omega⟩, fun s21 e21 s22 e22 => ?_⟩⟩⟩⟩⟩
      have g21 : s21 211 35 = n := by rw [e21, up_c (by decide), e20, up_c (by decide), e19, up_c (by decide), e18, up_c (by decide), e17, up_c (by decide), g35]
      rw [g21] at e22
      have v22 : vo s22 = bkT U U.mn c (U.rw (30 * c + x)) (U.ma c) x := by
        rw [eb, e22, vo_en, e21, vo_231, e20, vo_231, e19, vo_231, e18, vo_231, e17, vo_231, v1]
        dsimp only [sd_mn, sd_lot, sd_st, sd_bu, sd_ma, sd_rw, sd_pe, sd_t7, sd_en, sd_bk]
        rw [up_f, up_f, up_f, up_f, g231, em]
      have a22 : agR t s22 := by
        rw [e22, e21, e20, e19, e18, e17]
        exact (((((a1.up (scR_ref (by decide) (by decide))).up (scR_ref (by decide) (by decide))).up (scR_ref (by decide) (by decide))).up (scR_ref (by decide) (by decide))).up (scR_ref (by decide) (by decide))).up rfl
      have w1 := wu.bk (a1 := U.mn) (a2 := c) (a3 := U.rw (30 * c + x)) (a4 := U.ma c) (a5 := x)
      refine u_lev c0.2 v22 w1 ⟨ro.1, ro.2.1⟩ (by rw [bk_pe]; exact ro.2.2.1) (fun t23 v23 a23 => ?_)
      refine u_sets v23 (by omega) (fun t25 v25 a25 => ?_)
      have v25 : vo t25 = outT (bkT U U.mn c (U.rw (30 * c + x)) (U.ma c) x) (U.rw (30 * c + x)) (-1) := v25
      have o1 : (outT (bkT U U.mn c (U.rw (30 * c + x)) (U.ma c) x) (U.rw (30 * c + x)) (-1)).mn = U.mn := by unfold outT; rw [sets_mn, lev_mn, bk_mn]
      have o2 : (outT (bkT U U.mn c (U.rw (30 * c + x)) (U.ma c) x) (U.rw (30 * c + x)) (-1)).st = U.st := by unfold outT; rw [sets_st, lev_st, bk_st]
      have o3 : (outT (bkT U U.mn c (U.rw (30 * c + x)) (U.ma c) x) (U.rw (30 * c + x)) (-1)).bu = U.bu := by unfold outT; rw [sets_bu, lev_bu, bk_bu]
      have o4 : (outT (bkT U U.mn c (U.rw (30 * c + x)) (U.ma c) x) (U.rw (30 * c + x)) (-1)).t7 = U.t7 := by unfold outT; rw [sets_t7, lev_t7, bk_t7]
      have eT2 : srvT s c T = (⟨(outT (bkT U U.mn c (U.rw (30 * c + x)) (U.ma c) x) (U.rw (30 * c + x)) (-1)).mn, (outT (bkT U U.mn c (U.rw (30 * c + x)) (U.ma c) x) (U.rw (30 * c + x)) (-1)).lot, fu U.st c (U.st c - 1), fu U.bu c (U.mn + s 10 (3 * c + 1)), (outT (bkT U U.mn c (U.rw (30 * c + x)) (U.ma c) x) (U.rw (30 * c + x)) (-1)).ma, (outT (bkT U U.mn c (U.rw (30 * c + x)) (U.ma c) x) (U.rw (30 * c + x)) (-1)).rw, (outT (bkT U U.mn c (U.rw (30 * c + x)) (U.ma c) x) (U.rw (30 * c + x)) (-1)).pe, fu (fu (fu (fu (fu U.t7 (7 * v6 + 1) (U.t7 (7 * v6 + 1) + 1)) (7 * v6 + 3) (U.t7 (7 * v6 + 3) + v7)) (7 * v6 + 4) (U.t7 (7 * v6 + 4) + v7 * v7)) (7 * v6 + 5) (if U.t7 (7 * v6 + 5) < v7 then v7 else U.t7 (7 * v6 + 5))) (7 * v6 + 6) (U.t7 (7 * v6 + 6) + s 11 (6 * v6 + 1)), (outT (bkT U U.mn c (U.rw (30 * c + x)) (U.ma c) x) (U.rw (30 * c + x)) (-1)).en, (outT (bkT U U.mn c (U.rw (30 * c + x)) (U.ma c) x) (U.rw (30 * c + x)) (-1)).bk⟩ : Sh) := by
        rw [eT, e6, e7]
        rfl
      generalize outT (bkT U U.mn c (U.rw (30 * c + x)) (U.ma c) x) (U.rw (30 * c + x)) (-1) = V at v25 o1 o2 o3 o4 eT2
      have a25 := (a22.tr a23).tr a25
      rw [show mm_rt 211 29 = 225 from rfl, show mm_rt 211 30 = 226 from rfl, show mm_rt 211 13 = 217 from rfl, show mm_rt 211 34 = 230 from rfl]
      have c3 : 0 ≤ c ∧ c < 3 := by omega
      refine ⟨c3, c3, fun t27 e27 => ⟨⟨by omega, by omega⟩, c3, fun t28 e28 => ?_⟩⟩
      have h25 : t25 225 = U.st := by rw [← o2, ← v25]; rfl
      have h27m : t27 211 28 = U.mn := by rw [e27, up_c (by decide), ← o1, ← v25]; rfl
      have h217 : t27 217 (3 * c + 1) = s 10 (3 * c + 1) := by
        rw [e27, up_c (by decide), ← ct.2.2.2.2.2.2.2.1]
        have := (k.tr a25).1.2.2.2.1
        rw [this]
      have h226 : t27 226 = U.bu := by rw [e27, up_c (by decide), ← o3, ← v25]; rfl
      rw [h27m, h217] at e28
      have v28 : vo t28 = (⟨V.mn, V.lot, fu U.st c (U.st c - 1), fu U.bu c (U.mn + s 10 (3 * c + 1)), V.ma, V.rw, V.pe, U.t7, V.en, V.bk⟩ : Sh) := by
        rw [e28, vo_226, h226, e27, vo_225, v25, h25, ← o4]
        rfl
      have a28 : agR t t28 := by
        rw [e28, e27]
        exact (a25.up (scR_ref (by decide) (by decide))).up (scR_ref (by decide) (by decide))
      have hv6 : 0 ≤ v6 ∧ v6 < S := by rw [e6]; exact ⟨pf.1, pf.2.1⟩
      refine u_tells v28 (by omega) (fun t29 v29 a29 => ?_)
      refine u_tells v29 (by omega) (fun t31 v31 a31 => ?_)
      refine u_tells v31 (by omega) (fun t33 v33 a33 => ?_)
      refine ⟨⟨by omega, by omega⟩, ⟨by omega, by omega⟩, fun t35 e35' => ?_⟩
      have a33 := ((a28.tr a29).tr a31).tr a33
      have a35 : agR t t35 := by rw [e35']; exact a33.up (scR_ref (by decide) (by decide))
      have w33 : vo t33 = (⟨V.mn, V.lot, fu U.st c (U.st c - 1), fu U.bu c (U.mn + s 10 (3 * c + 1)), V.ma, V.rw, V.pe, fu (fu (fu U.t7 (7 * v6 + 1) (U.t7 (7 * v6 + 1) + 1)) (7 * v6 + 3) (U.t7 (7 * v6 + 3) + v7)) (7 * v6 + 4) (U.t7 (7 * v6 + 4) + v7 * v7), V.en, V.bk⟩ : Sh) := by
        rw [v33]
        unfold tellsT
        dsimp only [sd_mn, sd_lot, sd_st, sd_bu, sd_ma, sd_rw, sd_pe, sd_t7, sd_en, sd_bk]
        rw [fu_n (show 7 * v6 + 4 ≠ 7 * v6 + 3 by omega), fu_n (show 7 * v6 + 4 ≠ 7 * v6 + 1 by omega), fu_n (show 7 * v6 + 3 ≠ 7 * v6 + 1 by omega)]
      have h33 : t33 230 = fu (fu (fu U.t7 (7 * v6 + 1) (U.t7 (7 * v6 + 1) + 1)) (7 * v6 + 3) (U.t7 (7 * v6 + 3) + v7)) (7 * v6 + 4) (U.t7 (7 * v6 + 4) + v7 * v7) := congrArg Sh.t7 w33
      have y5 : fu (fu (fu U.t7 (7 * v6 + 1) (U.t7 (7 * v6 + 1) + 1)) (7 * v6 + 3) (U.t7 (7 * v6 + 3) + v7)) (7 * v6 + 4) (U.t7 (7 * v6 + 4) + v7 * v7) (7 * v6 + 5) = U.t7 (7 * v6 + 5) := by
        rw [fu_n (by omega), fu_n (by omega), fu_n (by omega)]
      have hmx : mm_max (U.t7 (7 * v6 + 5)) v7 = if U.t7 (7 * v6 + 5) < v7 then v7 else U.t7 (7 * v6 + 5) := by
        unfold mm_max
        rw [← e6] at t5
        rw [n32_id (x := U.t7 (7 * v6 + 5)) (by omega) (by omega), n32_id (x := v7) (by omega) (by omega)]
      rw [h33, y5, hmx] at e35'
      have v35 : vo t35 = (⟨V.mn, V.lot, fu U.st c (U.st c - 1), fu U.bu c (U.mn + s 10 (3 * c + 1)), V.ma, V.rw, V.pe, fu (fu (fu (fu U.t7 (7 * v6 + 1) (U.t7 (7 * v6 + 1) + 1)) (7 * v6 + 3) (U.t7 (7 * v6 + 3) + v7)) (7 * v6 + 4) (U.t7 (7 * v6 + 4) + v7 * v7)) (7 * v6 + 5) (if U.t7 (7 * v6 + 5) < v7 then v7 else U.t7 (7 * v6 + 5)), V.en, V.bk⟩ : Sh) := by
        rw [e35', vo_230, w33, h33]
        rfl
      refine u_sh hW (k.tr a35) hv6 (by omega) ?_
      refine u_tells v35 (by omega) (fun t38 v38 a38 => hp t38 ?_ (a35.tr a38))
      rw [v38, eT2]
      unfold tellsT
      dsimp only [sd_mn, sd_lot, sd_st, sd_bu, sd_ma, sd_rw, sd_pe, sd_t7, sd_en, sd_bk]
      rw [show fu (fu (fu (fu U.t7 (7 * v6 + 1) (U.t7 (7 * v6 + 1) + 1)) (7 * v6 + 3) (U.t7 (7 * v6 + 3) + v7)) (7 * v6 + 4) (U.t7 (7 * v6 + 4) + v7 * v7)) (7 * v6 + 5) (if U.t7 (7 * v6 + 5) < v7 then v7 else U.t7 (7 * v6 + 5)) (7 * v6 + 6) = U.t7 (7 * v6 + 6) by rw [fu_n (by omega), fu_n (by omega), fu_n (by omega), fu_n (by omega)]]
    rw [e35, n32_id (x := U.en) (by omega) (by omega)]
    refine ⟨fun q => ?_, fun q => ?_⟩
    · refine wr u U.en U.bk vu aa en0.1 (by omega) ?_
      unfold bkT
      rw [if_neg q, if_neg q]
    · have key : ∀ d y : Nat, y + d = 100 → 5 ≤ y → ∀ u1 : mm_M, (∀ j, u1 231 j = if 0 ≤ j ∧ j < (y : Int) - 5 then U.bk (j + 5) else U.bk j) → (∀ a : Nat, a ≠ 231 → u1 a = u a) → agR t u1 → L86 (T.ma c) x (U.rw (30 * c + x)) v6 v7 y u1 := by
        intro d
        induction d with
        | zero =>
          intro y hy y5 u1 g1 g2 a1
          apply h86
          have : y = 100 := by omega
          subst this
          refine ⟨fun _ s40 e40 => ?_, fun z => absurd (by decide) z⟩
          have g35 : u1 211 35 = U.en := by rw [g2 211 (by decide)]; exact e35
          rw [g35, q] at e40
          refine wr s40 19 (fun j => if 0 ≤ j ∧ j < 95 then U.bk (j + 5) else U.bk j) ?_ (by rw [e40]; exact a1.up rfl) (by omega) (by omega) ?_
          · rw [e40, vo_en]
            have e1 : u1 231 = fun j => if 0 ≤ j ∧ j < 95 then U.bk (j + 5) else U.bk j := by
              funext j
              rw [g1 j]
              rfl
            have : vo u1 = (⟨(vo u).mn, (vo u).lot, (vo u).st, (vo u).bu, (vo u).ma, (vo u).rw, (vo u).pe, (vo u).t7, (vo u).en, u1 231⟩ : Sh) := by
              unfold vo
              rw [g2 211 (by decide), g2 225 (by decide), g2 226 (by decide), g2 227 (by decide), g2 228 (by decide), g2 229 (by decide), g2 230 (by decide)]
              rfl
            rw [this, vu, e1]
            rfl
          · unfold bkT
            rw [if_pos q, if_pos q]
        | succ d ih =>
          intro y hy y5 u1 g1 g2 a1
          apply h86
          rw [n32_id (x := (y : Int)) (by omega) (by omega), show mm_rt 211 36 = 231 from rfl]
          refine ⟨fun z => by omega, fun _ => ⟨⟨by omega, by omega⟩, ⟨by omega, by omega⟩, fun s41 e41 v ev => ?_⟩⟩
          rw [ev, show (y : Int) + 1 = ((y + 1 : Nat) : Int) by omega]
          refine ih (y + 1) (by omega) (by omega) s41 (fun j => ?_) (fun a ha => by rw [e41, up_c ha]; exact g2 a ha) (by rw [e41]; exact a1.up (scR_ref (by decide) (by decide)))
          rw [e41]
          by_cases z : j = (y : Int) - 5
          · rw [z, up_e, g1, if_neg (by omega), if_pos (by omega)]
            congr 1; omega
          · rw [up_n (Or.inr z), g1]
            by_cases z2 : 0 ≤ j ∧ j < (y : Int) - 5
            · rw [if_pos z2, if_pos (by omega)]
            · rw [if_neg z2, if_neg (by omega)]
      refine key 95 5 rfl (by omega) u (fun j => ?_) (fun _ _ => rfl) aa
      rw [if_neg (by omega), ← vu]
      rfl
  have e217 : t 217 (3 * c) = s 10 (3 * c) := by rw [k.1.2.2.2.1]; exact ct.2.2.2.2.2.2.1
  have e7 : t 227 c = T.ma c := by rw [← e]; rfl
  rw [show mm_rt 211 13 = 217 from rfl, show mm_rt 211 31 = 227 from rfl, e217, e7]
  refine ⟨⟨by omega, by omega⟩, fun v2 e2 => ⟨⟨by omega, by omega⟩, fun v3 e3 => ?_⟩⟩
  rw [e2, e3, n32_id (x := s 10 (3 * c)) (by omega) (by omega)]
  refine ⟨fun q => ?_, fun q => ?_⟩
  · have nr := nxP_r (s := s) (T := T) (c := c) (l := s 10 (3 * c)) ⟨yes.2.2, m.2⟩
    refine u_next (hW.kW k.1) (k.2.rL hL) e w hc yes.2.2 ⟨by omega, by omega⟩ (fun u fu => ?_)
    rw [k_nxP k.1 k.2]
    exact ser T _ u (by rw [fu.vo]; exact e) w fu.ag.toR rfl nr.1 nr.2 (by unfold srvT; rw [if_pos yes, if_neg q])
  · refine u_draw e w ⟨yes.2.2, m.2⟩ (fun u vu au => ?_)
    have dr := drv_r (x := nxl T.lot) (n := T.ma c) yes.2.2
    exact ser (drwT T) _ u vu w.drw au rfl dr.1 dr.2 (by unfold srvT; rw [if_pos yes, if_pos q])
