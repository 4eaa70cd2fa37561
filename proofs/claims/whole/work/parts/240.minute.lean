/-! the minute: lots -/
def nxl (x : Int) : Int := (x * 1103515245 + 12345) % 2147483648
theorem nxl_r (x : Int) : 0 ≤ nxl x ∧ nxl x < 2147483648 := by unfold nxl; omega
theorem and_31 (x : Int) : mm_and x 2147483647 = x % 2147483648 := by
  unfold mm_and
  rw [pk_and _ 31 (show (mm_I 2147483647).toBitVec.toNat = 2 ^ 31 - 1 by decide)]
  rw [nI_toInt (Nat.mod_lt _ (by decide))]
  have e : (mm_I x).toBitVec.toNat = (x % 4294967296).toNat := by
    show (BitVec.ofInt 32 x).toNat = _
    rw [BitVec.toNat_ofInt]
    rfl
  rw [e]
  omega
theorem land_31 (x : Int) : mm_landL x 2147483647 = x % 2147483648 := by
  unfold mm_landL
  have e : (mm_L x).toBitVec.toNat = (x % 18446744073709551616).toNat := by
    show (BitVec.ofInt 64 x).toNat = _
    rw [BitVec.toNat_ofInt]
    rfl
  have h : (mm_L x &&& mm_L 2147483647).toBitVec.toNat = (x % 18446744073709551616).toNat % 2147483648 := by
    rw [Int64.toBitVec_and, BitVec.toNat_and, e]
    have : (mm_L 2147483647).toBitVec.toNat = 2 ^ 31 - 1 := by decide
    rw [this, Nat.and_two_pow_sub_one_eq_mod]
  show (mm_L x &&& mm_L 2147483647).toBitVec.toInt = _
  rw [BitVec.toInt_eq_toNat_of_lt (by rw [h]; omega), h]
  omega
def drv (x n : Int) : Int := x / 256 % n
def drwT (T : Sh) : Sh := (⟨T.mn, nxl T.lot, T.st, T.bu, T.ma, T.rw, T.pe, T.t7, T.en, T.bk⟩ : Sh)
theorem wf.drw {C S : Int} {T : Sh} (w : wf C S T) : wf C S (drwT T) := ⟨w.mn0, nxl_r _, w.ma0, w.st0, w.bu0, w.ro, w.di, w.ho, w.ins, w.pf, w.t5, w.en0⟩
theorem t_draw {C S : Int} {T : Sh} {s : mm_M} {n : Int} (hC : C ≤ 3) (r : rep s 29 C S T) (w : wf C S T) (hn : 0 < n ∧ n ≤ 30) {post : Int → mm_M → Prop} (k : ∀ s', rep s' 29 C S (drwT T) → agC s s' → post (drv (nxl T.lot) n) s') : wp_X7_drawLot 29 n s post := by
  intro s1 e1
  have l : s 29 8 = T.lot := r.lot
  rw [l, and_31] at e1
  have e1 : s1 = mm_up s 29 8 (nxl T.lot) := e1
  have g : s1 29 8 = nxl T.lot := by rw [e1, up_e]
  have lr := nxl_r T.lot
  have q : Int.tdiv (nxl T.lot) 256 = nxl T.lot / 256 := Int.tdiv_eq_ediv_of_nonneg (by omega)
  rw [g, n32_id (x := n) (by omega) (by omega), n32_id (x := nxl T.lot) (by omega) (by omega), q, n32_id (x := nxl T.lot / 256) (by omega) (by omega), Int.tmod_eq_emod_of_nonneg (by omega)]
  refine ⟨fun _ => ⟨by omega, k s1 ?_ (by rw [e1]; exact agC.rf.up (scC_shop (by decide) (by decide)))⟩, fun z => by omega⟩
  have e : ∀ x : Nat, x ≠ 29 → s1 x = s x := fun x hx => by rw [e1, up_c hx]
  exact ⟨by rw [e1, up_n (by decide)]; exact r.mn, g, fun c hc => by rw [e _ (by omega), e _ (by omega)]; exact r.dk c hc, fun p hp => by rw [e _ (by omega)]; exact r.pp p hp, fun j => by rw [e _ (by omega)]; exact r.tt j, by rw [e _ (by omega)]; exact r.en, fun j => by rw [e _ (by omega)]; exact r.bk j⟩
theorem u_draw {C S : Int} {T : Sh} {t : mm_M} {n : Int} (e : vo t = T) (w : wf C S T) (hn : 0 < n ∧ n ≤ 30) {post : Int → mm_M → Prop} (k : ∀ t', vo t' = drwT T → agR t t' → post (drv (nxl T.lot) n) t') : wp_X11_draws 211 n t post := by
  intro s1 e1
  have l : t 211 37 = T.lot := by rw [← e]; rfl
  rw [l, land_31] at e1
  have e1 : s1 = mm_up t 211 37 (nxl T.lot) := e1
  have g : s1 211 37 = nxl T.lot := by rw [e1, up_e]
  have lr := nxl_r T.lot
  have k2 : n64 256 = 256 := by decide
  have q : Int.tdiv (nxl T.lot) 256 = nxl T.lot / 256 := Int.tdiv_eq_ediv_of_nonneg (by omega)
  rw [g, n32_id (x := n) (by omega) (by omega), n64_id (x := n) (by omega) (by omega), k2, n64_id (x := nxl T.lot) (by omega) (by omega), q, n64_id (x := nxl T.lot / 256) (by omega) (by omega), Int.tmod_eq_emod_of_nonneg (by omega)]
  refine ⟨by decide, by omega, k s1 ?_ (by rw [e1]; exact agR.rf.up rfl)⟩
  rw [e1, vo_lot, e]
  rfl
/-! who comes -/
def emp (f : Int → Int) : Nat → Int
  | 0 => 0
  | k + 1 => if k = 0 then 0 else if f k < f (emp f k) then k else emp f k
theorem emp_r (f : Int → Int) : ∀ k : Nat, 0 < k → 0 ≤ emp f k ∧ emp f k < k := by
  intro k
  induction k with
  | zero => intro h; omega
  | succ k ih =>
    intro _
    rw [emp]
    by_cases q : k = 0
    · rw [if_pos q]; omega
    · rw [if_neg q]
      have := ih (by omega)
      by_cases q2 : f k < f (emp f k)
      · rw [if_pos q2]; omega
      · rw [if_neg q2]; omega
def comT (s : mm_M) (i : Int) (T : Sh) : Sh :=
  if drv (nxl T.lot) 16 < s 11 (6 * i) then
    (if freN (drwT T) < 30 then arrT (s 211 17) (drwT T) (freN (drwT T)) i (emp T.ma (s 9 4).toNat) (if s 11 (6 * i + 5) < 2 ∨ T.ma (emp T.ma (s 9 4).toNat) = 0 then 1 else 0) else drwT T)
  else drwT T
def einT (s : mm_M) (p : Int) (T : Sh) : Sh :=
  if (T.pe (7 * p + 2) = 2 ∧ T.ma (T.pe (7 * p + 1)) = 0) ∨ (T.pe (7 * p + 2) = 1 ∧ T.pe (7 * p + 6) ≤ T.mn) then entT (s 211 17) T p else T
def tnrT (s : mm_M) (p : Int) (T : Sh) : Sh :=
  if T.pe (7 * p + 2) = 0 ∧ s 11 (6 * T.pe (7 * p) + 5) = 1 ∧ plT T p < T.ma (T.pe (7 * p + 1)) - 1 then turT (s 211 17) (s 211 18) T p else T
def bkT (T : Sh) (a1 a2 a3 a4 a5 : Int) : Sh :=
  (⟨T.mn, T.lot, T.st, T.bu, T.ma, T.rw, T.pe, T.t7, (if T.en = 20 then 19 else T.en) + 1, fu (fu (fu (fu (fu (if T.en = 20 then (fun j => if 0 ≤ j ∧ j < 95 then T.bk (j + 5) else T.bk j) else T.bk) (5 * (if T.en = 20 then 19 else T.en)) a1) (5 * (if T.en = 20 then 19 else T.en) + 1) a2) (5 * (if T.en = 20 then 19 else T.en) + 2) a3) (5 * (if T.en = 20 then 19 else T.en) + 3) a4) (5 * (if T.en = 20 then 19 else T.en) + 4) a5⟩ : Sh)
/-- one is served: at place k of counter c -/
def serT (s : mm_M) (c k : Int) (T : Sh) : Sh :=
  let p := T.rw (30 * c + k)
  let i := T.pe (7 * p)
  let x := T.mn - T.pe (7 * p + 3)
  let U := outT (bkT T T.mn c p (T.ma c) k) p (-1)
  (⟨U.mn, U.lot, fu T.st c (T.st c - 1), fu T.bu c (T.mn + s 10 (3 * c + 1)), U.ma, U.rw, U.pe, fu (fu (fu (fu (fu T.t7 (7 * i + 1) (T.t7 (7 * i + 1) + 1)) (7 * i + 3) (T.t7 (7 * i + 3) + x)) (7 * i + 4) (T.t7 (7 * i + 4) + x * x)) (7 * i + 5) (if T.t7 (7 * i + 5) < x then x else T.t7 (7 * i + 5))) (7 * i + 6) (T.t7 (7 * i + 6) + s 11 (6 * i + 1)), U.en, U.bk⟩ : Sh)
def srvT (s : mm_M) (c : Int) (T : Sh) : Sh :=
  if T.bu c ≤ T.mn ∧ 0 < T.st c ∧ 0 < T.ma c then
    (if s 10 (3 * c) = 3 then serT s c (drv (nxl T.lot) (T.ma c)) (drwT T) else serT s c (nxP s T c (s 10 (3 * c))) T)
  else T
def payT (s : mm_M) (p : Int) (T : Sh) : Sh :=
  if T.pe (7 * p + 2) = -1 then T else
  if s 11 (6 * T.pe (7 * p) + 2) ≤ T.mn - T.pe (7 * p + 3) ∨ T.mn = s 211 16 then givT T p else tellsT T (T.pe (7 * p)) 6 (-(if T.pe (7 * p + 2) = 0 then s 11 (6 * T.pe (7 * p) + 3) else s 11 (6 * T.pe (7 * p) + 4)))
def itr (f : Int → Sh → Sh) (T : Sh) : Nat → Sh
  | 0 => T
  | n + 1 => f n (itr f T n)
def ticT (T : Sh) : Sh := (⟨T.mn + 1, T.lot, T.st, T.bu, T.ma, T.rw, T.pe, T.t7, T.en, T.bk⟩ : Sh)
def minT (s : mm_M) (T : Sh) : Sh :=
  itr (payT s) (ticT (itr (srvT s) (itr (tnrT s) (itr (einT s) (itr (comT s) T (s 9 5).toNat) 30) 30) (s 9 4).toNat)) 30
theorem itr_w {C S : Int} {f : Int → Sh → Sh} {T : Sh} {n : Nat} (w : wf C S T) (h : ∀ (k : Nat) (U : Sh), k < n → wf C S U → U.mn = T.mn → wf C S (f k U) ∧ (f k U).mn = U.mn) : ∀ k : Nat, k ≤ n → wf C S (itr f T k) ∧ (itr f T k).mn = T.mn := by
  intro k
  induction k with
  | zero => intro _; exact ⟨w, rfl⟩
  | succ k ih =>
    intro hk
    have i := ih (by omega)
    have j := h k _ (by omega) i.1 i.2
    exact ⟨j.1, j.2.trans i.2⟩
theorem r_W.ct {s : mm_M} (h : r_W s) {c : Int} (h1 : 0 ≤ c) (h2 : c < s 9 4) : 0 ≤ s 10 (3 * c) ∧ s 10 (3 * c) ≤ 8 ∧ 1 ≤ s 10 (3 * c + 1) ∧ s 10 (3 * c + 1) ≤ 9 ∧ 0 ≤ s 10 (3 * c + 2) ∧ s 10 (3 * c + 2) ≤ 99 ∧ s 217 (3 * c) = s 10 (3 * c) ∧ s 217 (3 * c + 1) = s 10 (3 * c + 1) ∧ s 217 (3 * c + 2) = s 10 (3 * c + 2) := by
  have a := h.2.2.2.2.2.2.2.2.2.2.2.2.2.2.2.1
  have b := h.2.2.2.2.2.2.2.2.2.2.2.2.2.2.2.2.1 c h1 h2
  exact ⟨b.1, b.2.1, b.2.2.1, b.2.2.2.1, b.2.2.2.2.1, b.2.2.2.2.2, a _ (by omega) (by omega), a _ (by omega) (by omega), a _ (by omega) (by omega)⟩
theorem r_W.so {s : mm_M} (h : r_W s) {c : Int} (h1 : 0 ≤ c) (h2 : c < s 9 5) : (0 ≤ s 11 (6 * c) ∧ s 11 (6 * c) ≤ 16 ∧ 0 ≤ s 11 (6 * c + 1) ∧ s 11 (6 * c + 1) ≤ 99 ∧ 1 ≤ s 11 (6 * c + 2) ∧ s 11 (6 * c + 2) ≤ 240 ∧ 0 ≤ s 11 (6 * c + 3) ∧ s 11 (6 * c + 3) ≤ 9 ∧ 0 ≤ s 11 (6 * c + 4) ∧ s 11 (6 * c + 4) ≤ 9 ∧ 0 ≤ s 11 (6 * c + 5) ∧ s 11 (6 * c + 5) ≤ 2) ∧ (∀ i, 0 ≤ i → i < 6 → s 218 (6 * c + i) = s 11 (6 * c + i)) := by
  have a := h.2.2.2.2.2.2.2.2.2.2.2.2.2.2.2.2.2.1
  have b := h.2.2.2.2.2.2.2.2.2.2.2.2.2.2.2.2.2.2 c h1 h2
  exact ⟨b, fun i i1 i2 => a _ (by omega) (by omega)⟩
theorem com_w {C S : Int} {s : mm_M} (hW : tw C S s) {T : Sh} (w : wf C S T) {i : Int} (hi : 0 ≤ i ∧ i < S) : wf C S (comT s i T) ∧ (comT s i T).mn = T.mn := by
  have c0 := hW.c0
  have em := emp_r T.ma (s 9 4).toNat (by rw [hW.cc]; omega)
  rw [hW.cc] at em
  unfold comT
  by_cases q : drv (nxl T.lot) 16 < s 11 (6 * i)
  · rw [if_pos q]
    by_cases q2 : freN (drwT T) < 30
    · rw [if_pos q2]
      have fo := freN_ok (drwT T)
      refine ⟨w.drw.arr fo.1 q2 (fo.2.2 q2) hi (by rw [hW.cc]; omega), ?_⟩
      unfold arrT
      split <;> rfl
    · rw [if_neg q2]
      exact ⟨w.drw, rfl⟩
  · rw [if_neg q]
    exact ⟨w.drw, rfl⟩
theorem ein_w {C S : Int} {s : mm_M} {T : Sh} (w : wf C S T) {p : Int} (hp : 0 ≤ p ∧ p < 30) : wf C S (einT s p T) ∧ (einT s p T).mn = T.mn := by
  unfold einT
  by_cases q : (T.pe (7 * p + 2) = 2 ∧ T.ma (T.pe (7 * p + 1)) = 0) ∨ (T.pe (7 * p + 2) = 1 ∧ T.pe (7 * p + 6) ≤ T.mn)
  · rw [if_pos q]
    exact ⟨w.ent hp.1 hp.2 (by omega) (by omega), rfl⟩
  · rw [if_neg q]
    exact ⟨w, rfl⟩
theorem tnr_w {C S : Int} {s : mm_M} (hW : tw C S s) {T : Sh} (w : wf C S T) {p : Int} (hp : 0 ≤ p ∧ p < 30) : wf C S (tnrT s p T) ∧ (tnrT s p T).mn = T.mn := by
  unfold tnrT
  by_cases q : T.pe (7 * p + 2) = 0 ∧ s 11 (6 * T.pe (7 * p) + 5) = 1 ∧ plT T p < T.ma (T.pe (7 * p + 1)) - 1
  · rw [if_pos q]
    refine ⟨w.tur hp.1 hp.2 q.1 hW.bo, ?_⟩
    unfold turT
    split <;> rfl
  · rw [if_neg q]
    exact ⟨w, rfl⟩
theorem pay_w {C S : Int} {s : mm_M} {T : Sh} (w : wf C S T) {p : Int} (hp : 0 ≤ p ∧ p < 30) : wf C S (payT s p T) ∧ (payT s p T).mn = T.mn := by
  unfold payT
  by_cases q : T.pe (7 * p + 2) = -1
  · rw [if_pos q]
    exact ⟨w, rfl⟩
  · rw [if_neg q]
    by_cases q2 : s 11 (6 * T.pe (7 * p) + 2) ≤ T.mn - T.pe (7 * p + 3) ∨ T.mn = s 211 16
    · rw [if_pos q2]
      refine ⟨w.giv hp.1 hp.2, ?_⟩
      unfold givT setsT tellsT
      dsimp only [sd_mn, sd_lot, sd_st, sd_bu, sd_ma, sd_rw, sd_pe, sd_t7, sd_en, sd_bk]
      split <;> rfl
    · rw [if_neg q2]
      exact ⟨w.tells (by omega), rfl⟩
theorem wf.bk {C S : Int} {T : Sh} (w : wf C S T) {a1 a2 a3 a4 a5 : Int} : wf C S (bkT T a1 a2 a3 a4 a5) := by
  have e := w.en0
  refine ⟨w.mn0, w.lo0, w.ma0, w.st0, w.bu0, w.ro, w.di, w.ho, w.ins, w.pf, w.t5, ?_⟩
  show 0 ≤ (if T.en = 20 then 19 else T.en) + 1 ∧ (if T.en = 20 then 19 else T.en) + 1 ≤ 20
  by_cases q : T.en = 20
  · rw [if_pos q]; omega
  · rw [if_neg q]; omega
theorem ser_w {C S : Int} {s : mm_M} (hW : tw C S s) {T : Sh} (w : wf C S T) {c k : Int} (hc : 0 ≤ c ∧ c < C) (hk : 0 ≤ k ∧ k < T.ma c) (hs : 0 < T.st c) : wf C S (serT s c k T) ∧ (serT s c k T).mn = T.mn := by
  have ro := w.ro c k hc.1 hc.2 hk.1 hk.2
  have pf := w.pf _ ro.1 ro.2.1 (by omega)
  have a := (w.bk (a1 := T.mn) (a2 := c) (a3 := T.rw (30 * c + k)) (a4 := T.ma c) (a5 := k)).out ro.1 ro.2.1 ro.2.2.1 (v := -1) (by omega)
  have ct := hW.w.ct hc.1 (by rw [hW.cc]; exact hc.2)
  have mn := w.mn0
  refine ⟨⟨a.mn0, a.lo0, a.ma0, fun d d1 d2 => ?_, fun d d1 d2 => ?_, a.ro, a.di, a.ho, a.ins, a.pf, fun d d1 d2 => ?_, a.en0⟩, rfl⟩
  · show 0 ≤ fu T.st c (T.st c - 1) d ∧ fu T.st c (T.st c - 1) d ≤ 99
    have := w.st0 d d1 d2
    by_cases q : d = c
    · subst q; rw [fu_e]; omega
    · rw [fu_n q]; exact this
  · show 0 ≤ fu T.bu c (T.mn + s 10 (3 * c + 1)) d ∧ fu T.bu c (T.mn + s 10 (3 * c + 1)) d ≤ 249
    have := w.bu0 d d1 d2
    by_cases q : d = c
    · rw [q, fu_e]; omega
    · rw [fu_n q]; exact this
  · have t5 := w.t5 d d1 d2
    unfold serT
    dsimp only [sd_mn, sd_lot, sd_st, sd_bu, sd_ma, sd_rw, sd_pe, sd_t7, sd_en, sd_bk]
    rw [fu_n (show 7 * d + 5 ≠ 7 * T.pe (7 * T.rw (30 * c + k)) + 6 by omega)]
    by_cases q : d = T.pe (7 * T.rw (30 * c + k))
    · rw [← q, fu_e]
      split <;> omega
    · rw [fu_n (by omega), fu_n (by omega), fu_n (by omega), fu_n (by omega)]
      exact t5
theorem drv_r {x n : Int} (h : 0 < n) : 0 ≤ drv x n ∧ drv x n < n := ⟨Int.emod_nonneg _ (by omega), Int.emod_lt_of_pos _ h⟩
theorem srv_w {C S : Int} {s : mm_M} (hW : tw C S s) {T : Sh} (w : wf C S T) {c : Int} (hc : 0 ≤ c ∧ c < C) : wf C S (srvT s c T) ∧ (srvT s c T).mn = T.mn := by
  unfold srvT
  have m := w.ma0 c hc.1 hc.2
  by_cases q : T.bu c ≤ T.mn ∧ 0 < T.st c ∧ 0 < T.ma c
  · rw [if_pos q]
    by_cases q2 : s 10 (3 * c) = 3
    · rw [if_pos q2]
      exact ser_w hW w.drw hc (drv_r q.2.2) q.2.1
    · rw [if_neg q2]
      exact ser_w hW w hc (nxP_r ⟨q.2.2, m.2⟩) q.2.1
  · rw [if_neg q]
    exact ⟨w, rfl⟩
theorem wf.tic {C S : Int} {T : Sh} (w : wf C S T) (h : T.mn < 240) : wf C S (ticT T) := by
  have m := w.mn0
  refine ⟨⟨?_, ?_⟩, w.lo0, w.ma0, w.st0, w.bu0, w.ro, w.di, w.ho, w.ins, fun p a b q => ?_, w.t5, w.en0⟩
  · show 0 ≤ T.mn + 1; omega
  · show T.mn + 1 ≤ 240; omega
  · have := w.pf p a b q
    show 0 ≤ T.pe (7 * p) ∧ T.pe (7 * p) < S ∧ 0 ≤ T.pe (7 * p + 1) ∧ T.pe (7 * p + 1) < C ∧ 0 ≤ T.pe (7 * p + 3) ∧ T.pe (7 * p + 3) ≤ T.mn + 1 ∧ -1 ≤ T.pe (7 * p + 4) ∧ T.pe (7 * p + 4) ≤ T.mn + 1 ∧ 0 ≤ T.pe (7 * p + 5) ∧ -1 ≤ T.pe (7 * p + 6) ∧ T.pe (7 * p + 6) ≤ 249
    omega
/-- after each part of a minute -/
theorem min_w {C S : Int} {s : mm_M} (hW : tw C S s) {T : Sh} (w : wf C S T) (h : T.mn < s 211 16) :
    (∀ k : Nat, (k : Int) ≤ S → wf C S (itr (comT s) T k) ∧ (itr (comT s) T k).mn = T.mn) ∧
    (∀ k : Nat, k ≤ 30 → wf C S (itr (einT s) (itr (comT s) T (s 9 5).toNat) k) ∧ (itr (einT s) (itr (comT s) T (s 9 5).toNat) k).mn = T.mn) ∧
    (∀ k : Nat, k ≤ 30 → wf C S (itr (tnrT s) (itr (einT s) (itr (comT s) T (s 9 5).toNat) 30) k) ∧ (itr (tnrT s) (itr (einT s) (itr (comT s) T (s 9 5).toNat) 30) k).mn = T.mn) ∧
    (∀ k : Nat, (k : Int) ≤ C → wf C S (itr (srvT s) (itr (tnrT s) (itr (einT s) (itr (comT s) T (s 9 5).toNat) 30) 30) k) ∧ (itr (srvT s) (itr (tnrT s) (itr (einT s) (itr (comT s) T (s 9 5).toNat) 30) 30) k).mn = T.mn) ∧
    (∀ k : Nat, k ≤ 30 → wf C S (itr (payT s) (ticT (itr (srvT s) (itr (tnrT s) (itr (einT s) (itr (comT s) T (s 9 5).toNat) 30) 30) (s 9 4).toNat)) k) ∧ (itr (payT s) (ticT (itr (srvT s) (itr (tnrT s) (itr (einT s) (itr (comT s) T (s 9 5).toNat) 30) 30) (s 9 4).toNat)) k).mn = T.mn + 1) := by
  have c0 := hW.c0
  have s0 := hW.s0
  have cl := hW.cl
  have a1 : ∀ k : Nat, (k : Int) ≤ S → wf C S (itr (comT s) T k) ∧ (itr (comT s) T k).mn = T.mn := fun k hk => itr_w (n := S.toNat) w (fun k U hk wU _ => com_w hW wU ⟨by omega, by omega⟩) k (by omega)
  have b1 := a1 (s 9 5).toNat (by rw [hW.ss]; omega)
  have a2 := itr_w (f := einT s) (n := 30) b1.1 (fun k U hk wU _ => ein_w wU ⟨by omega, by omega⟩)
  have b2 := a2 30 (by omega)
  have a3 := itr_w (f := tnrT s) (n := 30) b2.1 (fun k U hk wU _ => tnr_w hW wU ⟨by omega, by omega⟩)
  have b3 := a3 30 (by omega)
  have a4 := itr_w (f := srvT s) (n := C.toNat) b3.1 (fun k U hk wU _ => srv_w hW wU ⟨by omega, by omega⟩)
  have b4 := a4 (s 9 4).toNat (by rw [hW.cc]; omega)
  have b4m : (itr (srvT s) (itr (tnrT s) (itr (einT s) (itr (comT s) T (s 9 5).toNat) 30) 30) (s 9 4).toNat).mn = T.mn := b4.2.trans (b3.2.trans (b2.2.trans b1.2))
  have a5 := itr_w (f := payT s) (n := 30) (b4.1.tic (by rw [b4m]; omega)) (fun k U hk wU _ => pay_w wU ⟨by omega, by omega⟩)
  refine ⟨a1, fun k hk => ⟨(a2 k hk).1, (a2 k hk).2.trans b1.2⟩, fun k hk => ⟨(a3 k hk).1, (a3 k hk).2.trans (b2.2.trans b1.2)⟩, fun k hk => ⟨(a4 k (by omega)).1, (a4 k (by omega)).2.trans (b3.2.trans (b2.2.trans b1.2))⟩, fun k hk => ⟨(a5 k hk).1, (a5 k hk).2.trans ?_⟩⟩
  show (itr (srvT s) (itr (tnrT s) (itr (einT s) (itr (comT s) T (s 9 5).toNat) 30) 30) (s 9 4).toNat).mn + 1 = T.mn + 1
  rw [b4m]
