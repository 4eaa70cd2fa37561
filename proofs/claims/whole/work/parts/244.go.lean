/-! the reference's minute as a whole; promise 16 -/
theorem u_plc {C S : Int} {t : mm_M} {T : Sh} (hC : C ≤ 3) (e : vo t = T) (w : wf C S T) {p : Int} {post : Int → mm_M → Prop} (hp : 0 ≤ p ∧ p < 30) (h0 : T.pe (7 * p + 2) = 0) (k : post (plT T p) t) : wp_X11_placeOf 211 p t post := by
  have f := w.pf p hp.1 hp.2 (by omega)
  have l := w.pl hp.1 hp.2 h0
  have m := w.ma0 _ f.2.2.1 f.2.2.2.1
  subst e
  refine s_plM (c := (vo t).pe (7 * p + 1)) rfl hp ⟨f.2.2.1, by omega⟩ (n32_id (by omega) (by omega)) (k0 := plT (vo t) p) ⟨l.1, by omega⟩ l.2.2.1 (fun j j1 j2 => ?_) k
  have ro := w.ro _ j f.2.2.1 f.2.2.2.1 j1 (by omega)
  have e2 : n32 ((vo t).rw (30 * (vo t).pe (7 * p + 1) + j)) = (vo t).rw (30 * (vo t).pe (7 * p + 1) + j) := n32_id (by omega) (by omega)
  have e3 : n32 ((vo t).rw (30 * (vo t).pe (7 * p + 1) + j)) ≠ p := by rw [e2]; exact l.2.2.2 j j1 j2
  exact e3
theorem kd.g {s t : mm_M} (k : kd s t) : t 211 12 = s 211 12 ∧ t 211 14 = s 211 14 ∧ t 211 16 = s 211 16 ∧ t 211 17 = s 211 17 ∧ t 211 18 = s 211 18 :=
  ⟨k.1.2.2.2.2.2.1, k.1.2.2.2.2.2.2.1, k.1.2.2.2.2.2.2.2.1, k.1.2.2.2.2.2.2.2.2.1, k.1.2.2.2.2.2.2.2.2.2⟩
theorem u_minute {C S : Int} {T : Sh} {s t : mm_M} (hW : tw C S s) (hL : r_L s) (k : kd s t) (e : vo t = T) (w : wf C S T) (hm : T.mn < s 211 16) {post : mm_M → Prop} (hp : ∀ u, vo u = minT s T → agR t u → post u) : wp_X11_minuteGoes 211 t post := by
  have c0 := hW.c0
  have s0 := hW.s0
  have cl := hW.cl
  have bo := hW.bo
  obtain ⟨m1, m2, m3, m4, m5⟩ := min_w hW w hm
  intro L2 L23 L53 L82 L100 L164 L226 L283 L321 h2 h23 h53 h82 h100 h164 h226 h283 h321
  have pay : ∀ A : Sh, wf C S A → A.mn = T.mn + 1 → minT s T = itr (payT s) A 30 → ∀ d x : Nat, x + d = 30 → ∀ u, vo u = itr (payT s) A x → agR t u → L226 x u := by
    intro A wA mA fA d
    have ww := itr_w (f := payT s) (n := 30) wA (fun k U hk wU _ => pay_w wU ⟨by omega, by omega⟩)
    induction d with
    | zero =>
      intro x hx u eu au
      have : x = 30 := by omega
      subst this
      apply h226
      exact ⟨fun _ => hp u (by rw [fA]; exact eu) au, fun q => absurd (by decide) q⟩
    | succ d ih =>
      intro x hx u eu au
      have wx := ww x (by omega)
      have nx := ih (x + 1) (by omega)
      rw [itr, show ((x + 1 : Nat) : Int) = (x : Int) + 1 by omega] at nx
      generalize itr (payT s) A x = U at eu wx nx
      obtain ⟨wx, mx⟩ := wx
      have hh := wx.ho x (by omega) (by omega)
      have ku := k.tr au
      have e28 : u 211 28 = U.mn := by rw [← eu]; rfl
      apply h226
      rw [n32_id (x := (x : Int)) (by omega) (by omega)]
      refine ⟨fun q => by omega, fun _ => u_of eu (by omega) ?_⟩
      rw [n32_id (x := U.pe (7 * x + 2)) (by omega) (by omega)]
      refine ⟨fun hg => ?_, fun hg v ev => ?_⟩
      · have pf := wx.pf x (by omega) (by omega) hg
        have so := hW.w.so pf.1 (by rw [hW.ss]; exact pf.2.1)
        have mU := wx.mn0
        have give : s 11 (6 * U.pe (7 * x) + 2) ≤ U.mn - U.pe (7 * x + 3) ∨ U.mn = s 211 16 → L283 x u := by
          intro q
          apply h283
          refine u_giv c0.2 s0.2 eu wx ⟨by omega, by omega⟩ hg (fun u1 e1 a1 v ev => ?_)
          rw [ev]
          refine nx u1 ?_ (au.tr a1)
          rw [e1]
          unfold payT
          rw [if_neg hg, if_pos q]
        refine u_of0 eu ⟨by omega, by omega⟩ ?_
        intro v2 e2
        rw [e2]
        refine u_of eu (by omega) ?_
        refine u_sh hW ku ⟨pf.1, pf.2.1⟩ (by omega) ?_
        rw [e28, ku.g.2.2.1, n32_id (x := s 11 (6 * U.pe (7 * x) + 2)) (by omega) (by omega), n32_id (x := U.mn - U.pe (7 * x + 3)) (by omega) (by omega), n32_id (x := U.mn) (by omega) (by omega), n32_id (x := s 211 16) (by omega) (by omega)]
        refine ⟨fun q => give (Or.inl q), fun q => ⟨fun q2 => ?_, fun q2 => give (Or.inr q2)⟩⟩
        have stay : ∀ y : Int, y = -(if U.pe (7 * x + 2) = 0 then s 11 (6 * U.pe (7 * x) + 3) else s 11 (6 * U.pe (7 * x) + 4)) → L321 x y 6 (U.pe (7 * x)) u := by
          intro y ey
          apply h321
          refine u_tells eu (by omega) (fun u1 e1 a1 v ev => ?_)
          rw [ev]
          refine nx u1 ?_ (au.tr a1)
          rw [e1, ey]
          have nq : ¬ (s 11 (6 * U.pe (7 * x) + 2) ≤ U.mn - U.pe (7 * x + 3) ∨ U.mn = s 211 16) := by omega
          unfold payT
          rw [if_neg hg, if_neg nq]
        refine u_of eu (by omega) ?_
        rw [n32_id (x := U.pe (7 * x + 2)) (by omega) (by omega)]
        refine ⟨fun z => u_sh hW ku ⟨pf.1, pf.2.1⟩ (by omega) (stay _ (by rw [if_neg z])), fun z => u_sh hW ku ⟨pf.1, pf.2.1⟩ (by omega) (stay _ (by rw [if_pos z]))⟩
      · rw [ev]
        refine nx u ?_ au
        unfold payT
        rw [if_pos hg]
        exact eu
  have srv : ∀ A : Sh, (∀ k : Nat, (k : Int) ≤ C → wf C S (itr (srvT s) A k) ∧ (itr (srvT s) A k).mn = T.mn) → (∀ k : Nat, k ≤ 30 → wf C S (itr (payT s) (ticT (itr (srvT s) A (s 9 4).toNat)) k) ∧ (itr (payT s) (ticT (itr (srvT s) A (s 9 4).toNat)) k).mn = T.mn + 1) → minT s T = itr (payT s) (ticT (itr (srvT s) A (s 9 4).toNat)) 30 → ∀ d x : Nat, (x : Int) + d = C → ∀ u, vo u = itr (srvT s) A x → agR t u → L164 x u := by
    intro A wA wP fA d
    induction d with
    | zero =>
      intro x hx u eu au
      have ku := k.tr au
      have e12 : u 211 12 = C := by rw [ku.g.1, hW.w.2.2.2.2.1]; exact hW.cc
      apply h164
      rw [e12, n32_id (x := C) (by omega) (by omega), n32_id (x := (x : Int)) (by omega) (by omega)]
      refine ⟨fun _ s37 e37 => ?_, fun q => by omega⟩
      have ex : x = (s 9 4).toNat := by rw [hW.cc]; omega
      have w0 := wP 0 (by omega)
      rw [itr_0] at w0
      refine pay _ w0.1 w0.2 fA 30 0 rfl s37 ?_ (by rw [e37]; exact au.up rfl)
      rw [itr_0, e37, vo_mn, ← ex, ← eu]
      rfl
    | succ d ih =>
      intro x hx u eu au
      have wx := wA x (by omega)
      have nx := ih (x + 1) (by omega)
      rw [itr, show ((x + 1 : Nat) : Int) = (x : Int) + 1 by omega] at nx
      generalize itr (srvT s) A x = U at eu wx nx
      obtain ⟨wx, mx⟩ := wx
      have ku := k.tr au
      have e12 : u 211 12 = C := by rw [ku.g.1, hW.w.2.2.2.2.1]; exact hW.cc
      have e28 : u 211 28 = U.mn := by rw [← eu]; rfl
      have e25 : u 225 x = U.st x := by rw [← eu]; rfl
      have e26 : u 226 x = U.bu x := by rw [← eu]; rfl
      have e27 : u 227 x = U.ma x := by rw [← eu]; rfl
      have n1 := wx.st0 x (by omega) (by omega)
      have n2 := wx.bu0 x (by omega) (by omega)
      have n3 := wx.ma0 x (by omega) (by omega)
      have mU := wx.mn0
      have stay : ¬ (U.bu x ≤ U.mn ∧ 0 < U.st x ∧ 0 < U.ma x) → ∀ v : Int, v = (x : Int) + 1 → L164 v u := by
        intro q v ev
        rw [ev]
        refine nx u ?_ au
        unfold srvT
        rw [if_neg q]
        exact eu
      apply h164
      rw [show mm_rt 211 30 = 226 from rfl, show mm_rt 211 29 = 225 from rfl, show mm_rt 211 31 = 227 from rfl, e12, e28, e25, e26, e27, n32_id (x := C) (by omega) (by omega), n32_id (x := (x : Int)) (by omega) (by omega), n32_id (x := U.mn) (by omega) (by omega), n32_id (x := U.bu x) (by omega) (by omega), n32_id (x := U.st x) (by omega) (by omega), n32_id (x := U.ma x) (by omega) (by omega)]
      refine ⟨fun q => by omega, fun _ => ⟨⟨by omega, by omega⟩, fun q => stay (by omega), fun q => ⟨⟨by omega, by omega⟩, fun q2 => stay (by omega), fun q2 => ⟨⟨by omega, by omega⟩, fun q3 => stay (by omega), fun q3 => ?_⟩⟩⟩⟩
      refine u_serve hW hL ku eu wx ⟨by omega, by omega⟩ ⟨by omega, by omega, by omega⟩ (fun u1 e1 a1 v ev => ?_)
      rw [ev]
      exact nx u1 e1 (au.tr a1)
  have tur : ∀ A : Sh, (∀ k : Nat, k ≤ 30 → wf C S (itr (tnrT s) A k) ∧ (itr (tnrT s) A k).mn = T.mn) → (∀ u, vo u = itr (tnrT s) A 30 → agR t u → L164 0 u) → ∀ d x : Nat, x + d = 30 → ∀ u, vo u = itr (tnrT s) A x → agR t u → L100 x u := by
    intro A wA fA d
    induction d with
    | zero =>
      intro x hx u eu au
      have : x = 30 := by omega
      subst this
      apply h100
      exact ⟨fun _ => fA u eu au, fun q => absurd (by decide) q⟩
    | succ d ih =>
      intro x hx u eu au
      have wx := wA x (by omega)
      have nx := ih (x + 1) (by omega)
      rw [itr, show ((x + 1 : Nat) : Int) = (x : Int) + 1 by omega] at nx
      generalize itr (tnrT s) A x = U at eu wx nx
      obtain ⟨wx, mx⟩ := wx
      have hh := wx.ho x (by omega) (by omega)
      have ku := k.tr au
      have stay : ¬ (U.pe (7 * x + 2) = 0 ∧ s 11 (6 * U.pe (7 * x) + 5) = 1 ∧ plT U x < U.ma (U.pe (7 * x + 1)) - 1) → ∀ v : Int, v = (x : Int) + 1 → L100 v u := by
        intro q v ev
        rw [ev]
        refine nx u ?_ au
        unfold tnrT
        rw [if_neg q]
        exact eu
      apply h100
      rw [n32_id (x := (x : Int)) (by omega) (by omega)]
      refine ⟨fun q => by omega, fun _ => u_of eu (by omega) ?_⟩
      rw [n32_id (x := U.pe (7 * x + 2)) (by omega) (by omega)]
      refine ⟨fun z => stay (by omega), fun z => ?_⟩
      have pf := wx.pf x (by omega) (by omega) (by omega)
      have so := hW.w.so pf.1 (by rw [hW.ss]; exact pf.2.1)
      have pl := wx.pl (p := x) (by omega) (by omega) z
      have m := wx.ma0 _ pf.2.2.1 pf.2.2.2.1
      refine u_of0 eu ⟨by omega, by omega⟩ ?_
      refine u_sh hW ku ⟨pf.1, pf.2.1⟩ (by omega) ?_
      rw [n32_id (x := s 11 (6 * U.pe (7 * x) + 5)) (by omega) (by omega)]
      refine ⟨fun y => stay (by omega), fun y => ?_⟩
      refine u_plc c0.2 eu wx ⟨by omega, by omega⟩ z ?_
      refine u_of eu (by omega) ?_
      have e27 : u 227 (U.pe (7 * x + 1)) = U.ma (U.pe (7 * x + 1)) := by rw [← eu]; rfl
      rw [show mm_rt 211 31 = 227 from rfl, e27, n32_id (x := U.ma (U.pe (7 * x + 1)) - 1) (by omega) (by omega), n32_id (x := plT U x) (by omega) (by omega)]
      refine ⟨⟨by omega, by omega⟩, fun q => stay (by omega), fun q => ?_⟩
      refine u_tur c0.2 s0.2 eu wx ⟨by omega, by omega⟩ z (by rw [ku.g.2.2.2.2]; exact bo) (fun u1 e1 a1 v ev => ?_)
      rw [ev]
      refine nx u1 ?_ (au.tr a1)
      rw [e1, ku.g.2.2.2.1, ku.g.2.2.2.2]
      unfold tnrT
      rw [if_pos ⟨z, y, by omega⟩]
  have ein : ∀ A : Sh, (∀ k : Nat, k ≤ 30 → wf C S (itr (einT s) A k) ∧ (itr (einT s) A k).mn = T.mn) → (∀ u, vo u = itr (einT s) A 30 → agR t u → L100 0 u) → ∀ d x : Nat, x + d = 30 → ∀ u, vo u = itr (einT s) A x → agR t u → L23 x u := by
    intro A wA fA d
    induction d with
    | zero =>
      intro x hx u eu au
      have : x = 30 := by omega
      subst this
      apply h23
      exact ⟨fun _ => fA u eu au, fun q => absurd (by decide) q⟩
    | succ d ih =>
      intro x hx u eu au
      have wx := wA x (by omega)
      have nx := ih (x + 1) (by omega)
      rw [itr, show ((x + 1 : Nat) : Int) = (x : Int) + 1 by omega] at nx
      generalize itr (einT s) A x = U at eu wx nx
      obtain ⟨wx, mx⟩ := wx
      have hh := wx.ho x (by omega) (by omega)
      have mU := wx.mn0
      have ku := k.tr au
      have e28 : u 211 28 = U.mn := by rw [← eu]; rfl
      have no : ¬ ((U.pe (7 * x + 2) = 2 ∧ U.ma (U.pe (7 * x + 1)) = 0) ∨ (U.pe (7 * x + 2) = 1 ∧ U.pe (7 * x + 6) ≤ U.mn)) → L82 x 0 u := by
        intro q
        apply h82
        intro v2 e2
        rw [e2]
        refine ⟨fun _ v ev => ?_, fun z => absurd m_0 z⟩
        rw [ev]
        refine nx u ?_ au
        unfold einT
        rw [if_neg q]
        exact eu
      have yes : ((U.pe (7 * x + 2) = 2 ∧ U.ma (U.pe (7 * x + 1)) = 0) ∨ (U.pe (7 * x + 2) = 1 ∧ U.pe (7 * x + 6) ≤ U.mn)) → L82 x 1 u := by
        intro q
        have pf := wx.pf x (by omega) (by omega) (by omega)
        have rm := wx.room (p := x) pf.2.2.1 pf.2.2.2.1 (by omega) (by omega) (by omega)
        have m := wx.ma0 _ pf.2.2.1 pf.2.2.2.1
        apply h82
        intro v2 e2
        rw [e2]
        refine ⟨fun z => absurd z (by decide), fun _ => u_ent eu ⟨by omega, by omega⟩ ⟨pf.2.2.1, by omega⟩ ⟨m.1, rm⟩ ⟨pf.1, by omega⟩ (fun u1 e1 a1 v ev => ?_)⟩
        rw [ev]
        refine nx u1 ?_ (au.tr a1)
        rw [e1, ku.g.2.2.2.1]
        unfold einT
        rw [if_pos q]
      have f53 : ¬ (U.pe (7 * x + 2) = 2 ∧ U.ma (U.pe (7 * x + 1)) = 0) → L53 x u := by
        intro q
        apply h53
        refine u_of eu (by omega) ?_
        rw [n32_id (x := U.pe (7 * x + 2)) (by omega) (by omega)]
        refine ⟨fun z => no (by omega), fun z => u_of eu (by omega) ?_⟩
        have pf := wx.pf x (by omega) (by omega) (by omega)
        rw [e28, n32_id (x := U.mn) (by omega) (by omega), n32_id (x := U.pe (7 * x + 6)) (by omega) (by omega)]
        exact ⟨fun y => no (by omega), fun y => yes (by omega)⟩
      apply h23
      rw [n32_id (x := (x : Int)) (by omega) (by omega)]
      refine ⟨fun q => by omega, fun _ => u_of eu (by omega) ?_⟩
      rw [n32_id (x := U.pe (7 * x + 2)) (by omega) (by omega)]
      refine ⟨fun z => f53 (by omega), fun z => u_of eu (by omega) ?_⟩
      have pf := wx.pf x (by omega) (by omega) (by omega)
      have m := wx.ma0 _ pf.2.2.1 pf.2.2.2.1
      have e27 : u 227 (U.pe (7 * x + 1)) = U.ma (U.pe (7 * x + 1)) := by rw [← eu]; rfl
      rw [show mm_rt 211 31 = 227 from rfl, e27, n32_id (x := U.ma (U.pe (7 * x + 1))) (by omega) (by omega)]
      exact ⟨⟨by omega, by omega⟩, fun q => yes (Or.inl ⟨z, q⟩), fun q => f53 (fun h => q h.2)⟩
  have com : ∀ d x : Nat, (x : Int) + d = S → ∀ u, vo u = itr (comT s) T x → agR t u → L2 x u := by
    intro d
    induction d with
    | zero =>
      intro x hx u eu au
      have ku := k.tr au
      have e14 : u 211 14 = S := by rw [ku.g.2.1, hW.w.2.2.2.2.2.1]; exact hW.ss
      have ex : x = (s 9 5).toNat := by rw [hW.ss]; omega
      apply h2
      rw [e14, n32_id (x := S) (by omega) (by omega), n32_id (x := (x : Int)) (by omega) (by omega)]
      refine ⟨fun _ => ?_, fun q => by omega⟩
      rw [ex] at eu
      refine ein (itr (comT s) T (s 9 5).toNat) m2 (fun u2 e2 a2 => ?_) 30 0 (by omega) u (by rw [itr_0]; exact eu) au
      refine tur (itr (einT s) (itr (comT s) T (s 9 5).toNat) 30) m3 (fun u3 e3 a3 => ?_) 30 0 (by omega) u2 (by rw [itr_0]; exact e2) a2
      exact srv (itr (tnrT s) (itr (einT s) (itr (comT s) T (s 9 5).toNat) 30) 30) m4 m5 (by unfold minT; rfl) C.toNat 0 (by omega) u3 (by rw [itr_0]; exact e3) a3
    | succ d ih =>
      intro x hx u eu au
      have wx := m1 x (by omega)
      have nx := ih (x + 1) (by omega)
      rw [itr, show ((x + 1 : Nat) : Int) = (x : Int) + 1 by omega] at nx
      generalize itr (comT s) T x = U at eu wx nx
      obtain ⟨wx, mx⟩ := wx
      have ku := k.tr au
      have e14 : u 211 14 = S := by rw [ku.g.2.1, hW.w.2.2.2.2.2.1]; exact hW.ss
      apply h2
      rw [e14, n32_id (x := S) (by omega) (by omega), n32_id (x := (x : Int)) (by omega) (by omega)]
      refine ⟨fun q => by omega, fun _ => u_com hW ku eu wx ⟨by omega, by omega⟩ (fun u1 e1 a1 v ev => ?_)⟩
      rw [ev]
      exact nx u1 e1 (au.tr a1)
  exact com S.toNat 0 (by omega) t e agR.rf
def gos (s : mm_M) (T : Sh) : Nat → Sh
  | 0 => T
  | n + 1 => if (gos s T n).mn < s 211 16 then minT s (gos s T n) else gos s T n
theorem gos_w {C S : Int} {s : mm_M} (hW : tw C S s) {T : Sh} (w : wf C S T) : ∀ n, wf C S (gos s T n) := by
  intro n
  induction n with
  | zero => exact w
  | succ n ih =>
    rw [gos]
    by_cases q : (gos s T n).mn < s 211 16
    · rw [if_pos q]
      exact ((min_w hW ih q).2.2.2.2 30 (by omega)).1
    · rw [if_neg q]; exact ih
theorem gos_s {s : mm_M} {T : Sh} {n : Nat} (h : ¬ (gos s T n).mn < s 211 16) : ∀ d, gos s T (n + d) = gos s T n := by
  intro d
  induction d with
  | zero => rfl
  | succ d ih =>
    rw [show n + (d + 1) = (n + d) + 1 by omega, gos, ih, if_neg h]
theorem min_k {s u : mm_M} (h : k_W s u) (h2 : k_L s u) (T : Sh) : minT u T = minT s T := by
  obtain ⟨o1, o2, o3, o4, o5⟩ := k_op h h2
  unfold minT
  rw [o1, o2, o3, o4, o5, h.1]
/-- promise 16 -/
theorem q_go {s : mm_M} {a1 : Int} (hR : Rel s) (h1 : n32 a1 = a1) (post : Int → mm_M → Prop) (hp : ∀ r1 s1, Gd (wp_X11_go 211 a1 s1) r1 → post r1 s1) : wp_X10_go 0 a1 s post := by
  have hw := hR.2.1
  have n4 : n32 (s 9 4) = s 9 4 := n32_id (by have := hw.1; omega) (by have := hw.2.1; omega)
  have k240 : n32 240 = 240 := by decide
  have no : (s 9 4 = 0 ∨ a1 < 1 ∨ 240 < a1) → Gd (wp_X11_go 211 a1 s) (-1) := by
    intro q p2 k2 L22 h22
    rw [hw.2.2.2.2.1, n4]
    refine ⟨fun _ => k2 _ _ rfl hR, fun z => s_in (fun b1 b2 => ?_) (fun b => ⟨fun z => absurd m_0 z, fun _ => k2 _ _ rfl hR⟩)⟩
    rw [h1, m_1] at b1
    rw [h1, k240] at b2
    omega
  intro L26 h26
  rw [show mm_rt 0 1 = 9 from rfl]
  unfold wp_X9_isTold
  rw [n4, h1]
  refine ⟨fun q => ⟨fun _ => hp _ _ (no (Or.inl (by have := hw.1; omega))), fun z => absurd m_0 z⟩, fun q => ⟨fun z => absurd z (by decide), fun _ => ⟨fun q1 => hp _ _ (no (Or.inr (Or.inl q1))), fun q1 => ⟨fun q2 => ?_, fun q2 => hp _ _ (no (Or.inr (Or.inr (by omega))))⟩⟩⟩⟩
  have hW := hR.tw (by omega)
  obtain ⟨r, w⟩ := hR.sh (by omega)
  have hL := hR.2.2.1
  have cl := hW.cl
  have ww := gos_w hW w
  obtain ⟨N, eN⟩ : ∃ N : Nat, (N : Int) = a1 := ⟨a1.toNat, by omega⟩
  have fin : ∀ u, rep u 29 (s 9 4) (s 9 5) (gos s (vo s) N) → agC s u → Gd (wp_X11_go 211 a1 u) (gos s (vo s) N).mn := by
    intro u ru au p2 k2 L22 h22
    have k0 : kd s u := ⟨au.kW, au.kL⟩
    rw [k0.g.1, hw.2.2.2.2.1, n4]
    refine ⟨fun z => by omega, fun _ => s_in (fun _ _ => ⟨fun _ => ?_, fun z => absurd z (by decide)⟩) (fun b => by rw [h1, m_1, k240] at b; omega)⟩
    have done : ∀ u1, vo u1 = gos s (vo s) N → agR u u1 → p2 (u1 211 28) u1 := by
      intro u1 e1 b1
      have e28 : u1 211 28 = (gos s (vo s) N).mn := by rw [← e1]; rfl
      exact k2 _ _ (by rw [e28]) (hR.shop (by omega) au b1 ru (ww N) e1)
    have key : ∀ d x : Nat, x + d = N → ∀ u1, vo u1 = gos s (vo s) x → agR u u1 → L22 x u1 := by
      intro d
      induction d with
      | zero =>
        intro x hx u1 e1 b1
        apply h22
        have : x = N := by omega
        subst this
        exact ⟨fun _ => done u1 e1 b1, fun z => absurd (by rw [eN]; exact Int.le_refl _) z⟩
      | succ d ih =>
        intro x hx u1 e1 b1
        have wx := ww x
        have nx := ih (x + 1) (by omega)
        rw [gos, show ((x + 1 : Nat) : Int) = (x : Int) + 1 by omega] at nx
        have k1 := k0.tr b1
        have mx := wx.mn0
        have e28 : u1 211 28 = (gos s (vo s) x).mn := by rw [← e1]; rfl
        apply h22
        rw [h1, e28, k1.g.2.2.1, n32_id (x := (x : Int)) (by omega) (by omega), n32_id (x := s 211 16) (by omega) (by omega), n32_id (x := (gos s (vo s) x).mn) (by omega) (by omega)]
        refine ⟨fun q => by omega, fun _ => ⟨fun q => ?_, fun q => ?_⟩⟩
        · have st := gos_s (s := s) (T := vo s) (n := x) (by omega) (d + 1)
          rw [hx] at st
          have := done u1 (by rw [st]; exact e1) b1
          rw [e28] at this
          exact this
        · refine u_minute hW hL k1 e1 wx (by omega) (fun u2 e2 b2 v ev => ?_)
          rw [ev]
          refine nx u2 ?_ (b1.tr b2)
          rw [if_pos (by omega)]
          exact e2
    exact key N 0 (by omega) u (by rw [au.vo]; rfl) agR.rf
  rw [show mm_rt 0 5 = 29 from rfl] at h26
  have key : ∀ d x : Nat, x + d = N → ∀ u, rep u 29 (s 9 4) (s 9 5) (gos s (vo s) x) → agC s u → L26 x u := by
    intro d
    induction d with
    | zero =>
      intro x hx u ru au
      apply h26
      have : x = N := by omega
      subst this
      refine ⟨fun _ => ?_, fun z => absurd (by rw [eN]; exact Int.le_refl _) z⟩
      rw [ru.mn]
      exact hp _ _ (fin u ru au)
    | succ d ih =>
      intro x hx u ru au
      have wx := ww x
      have nx := ih (x + 1) (by omega)
      rw [gos, show ((x + 1 : Nat) : Int) = (x : Int) + 1 by omega] at nx
      have mx := wx.mn0
      have hu := hW.fC au
      have e16 : u 211 16 = s 211 16 := au 211 16 rfl
      apply h26
      rw [h1, n32_id (x := (x : Int)) (by omega) (by omega)]
      refine ⟨fun q => by omega, fun _ => t_close hu ?_⟩
      rw [ru.mn, e16, n32_id (x := s 211 16) (by omega) (by omega), n32_id (x := (gos s (vo s) x).mn) (by omega) (by omega)]
      refine ⟨fun q => ?_, fun q => ?_⟩
      · have st := gos_s (s := s) (T := vo s) (n := x) (by omega) (d + 1)
        rw [hx] at st
        have := fin u (by rw [st]; exact ru) au
        rw [st] at this
        exact hp _ _ this
      · refine t_minute hu (au.kL.rL hL) ru wx (by rw [e16]; omega) (fun u2 r2 b2 v ev => ?_)
        rw [ev]
        refine nx u2 ?_ (au.tr b2)
        rw [if_pos (by omega)]
        rw [min_k au.kW au.kL] at r2
        exact r2
  exact key N 0 (by omega) s r agC.rf
