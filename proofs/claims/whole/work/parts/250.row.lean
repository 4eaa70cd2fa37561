/-! the row of comers: sets of those who were served as bits -/
theorem b_or : ∀ V : Nat, V < 256 → ∀ k : Nat, k < 8 → mm_or (V : Int) (mm_shl 1 (k : Int)) = ((V ||| 2 ^ k : Nat) : Int) ∧ V ||| 2 ^ k < 256 := by decide +kernel
theorem b_bt : ∀ V : Nat, V < 256 → ∀ k : Nat, k < 8 → mm_and (mm_shr (V : Int) (k : Int)) 1 = (if V.testBit k then 1 else 0) := by decide +kernel
theorem b_in {V w j : Nat} : (V ||| 2 ^ w).testBit j = true ↔ V.testBit j = true ∨ w = j := by
  rw [Nat.testBit_or, Nat.testBit_two_pow, Bool.or_eq_true, decide_eq_true_iff]
theorem b_out {V w j : Nat} : (V ||| 2 ^ w).testBit j = false ↔ V.testBit j = false ∧ w ≠ j := by
  rw [Nat.testBit_or, Nat.testBit_two_pow, Bool.or_eq_false_iff, decide_eq_false_iff_not]
theorem b_no {b : Bool} (h : ¬ b = true) : b = false := by cases b; rfl; exact absurd rfl h
def smV (f : Int → Int) (V : Nat) : Nat → Int
  | 0 => 0
  | k + 1 => smV f V k + (if V.testBit k = true then f k else 0)
def m2 (a b : Int) : Int := if a < b then b else a
def mxV (f : Int → Int) (V : Nat) : Nat → Int
  | 0 => 0
  | k + 1 => m2 (mxV f V k) (if V.testBit k = true then f k else 0)
def tot (f : Int → Int) : Nat → Int
  | 0 => 0
  | k + 1 => tot f k + f k
def totM (f : Int → Int) : Nat → Int
  | 0 => 0
  | k + 1 => m2 (totM f k) (f k)
theorem m2_p {a b : Int} (h : a < b) : m2 a b = b := if_pos h
theorem m2_n {a b : Int} (h : ¬ a < b) : m2 a b = a := if_neg h
theorem m2_c {a x y : Int} : m2 (m2 a x) y = m2 (m2 a y) x := by
  unfold m2
  by_cases h1 : a < x
  · by_cases h2 : a < y
    · rw [if_pos h1, if_pos h2]
      split
      · split <;> omega
      · split <;> omega
    · rw [if_pos h1, if_neg h2, if_pos h1, if_neg (by omega)]
  · by_cases h2 : a < y
    · rw [if_neg h1, if_pos h2, if_neg (by omega)]
    · rw [if_neg h1, if_neg h2, if_neg h1]
theorem sm_in {f : Int → Int} {V w : Nat} {x : Int} (h : V.testBit w = false) : ∀ n : Nat, smV (fu f w x) (V ||| 2 ^ w) n = smV f V n + (if w < n then x else 0) := by
  intro n
  induction n with
  | zero => rw [smV, smV, if_neg (by omega)]; rfl
  | succ n ih =>
    rw [smV, smV, ih]
    by_cases q : w = n
    · subst q
      rw [if_neg (show ¬ w < w by omega), if_pos (b_in.mpr (Or.inr rfl)), fu_e, h, if_neg (show ¬ false = true by decide), if_pos (show w < w + 1 by omega)]
    · have e : (if (V ||| 2 ^ w).testBit n = true then f n else 0) = (if V.testBit n = true then f n else 0) := by
        by_cases r : V.testBit n = true
        · rw [if_pos (b_in.mpr (Or.inl r)), if_pos r]
        · rw [if_neg (fun y => by rcases b_in.mp y with y | y; exact r y; exact q y), if_neg r]
      rw [fu_n (by omega), e]
      generalize (if V.testBit n = true then f n else 0) = y
      by_cases z : w < n
      · rw [if_pos z, if_pos (show w < n + 1 by omega)]; omega
      · rw [if_neg z, if_neg (show ¬ w < n + 1 by omega)]; omega
theorem mxV_0 {f : Int → Int} {V : Nat} : ∀ n : Nat, 0 ≤ mxV f V n := by
  intro n
  induction n with
  | zero => exact Int.le_refl 0
  | succ n ih =>
    rw [mxV]
    unfold m2
    split <;> omega
theorem mx_in {f : Int → Int} {V w : Nat} {x : Int} (h : V.testBit w = false) (hx : 0 ≤ x) : ∀ n : Nat, mxV (fu f w x) (V ||| 2 ^ w) n = if w < n then m2 (mxV f V n) x else mxV f V n := by
  intro n
  induction n with
  | zero => rw [if_neg (by omega)]; rfl
  | succ n ih =>
    have n0 := mxV_0 (f := f) (V := V) n
    rw [mxV, mxV, ih]
    by_cases q : w = n
    · subst q
      rw [if_neg (show ¬ w < w by omega), if_pos (b_in.mpr (Or.inr rfl)), fu_e, h, if_neg (show ¬ false = true by decide), if_pos (show w < w + 1 by omega), m2_n (a := mxV f V w) (b := 0) (by omega)]
    · rw [fu_n (by omega)]
      have e : (if (V ||| 2 ^ w).testBit n = true then f n else 0) = (if V.testBit n = true then f n else 0) := by
        by_cases r : V.testBit n = true
        · rw [if_pos (b_in.mpr (Or.inl r)), if_pos r]
        · rw [if_neg (fun y => by rcases b_in.mp y with y | y; exact r y; exact q y), if_neg r]
      rw [e]
      generalize (if V.testBit n = true then f n else 0) = y
      by_cases z : w < n
      · rw [if_pos z, if_pos (show w < n + 1 by omega)]
        exact m2_c
      · rw [if_neg z, if_neg (by omega)]
theorem sm_all {f : Int → Int} {V : Nat} : ∀ n : Nat, (∀ k, k < n → V.testBit k = true) → smV f V n = tot f n := by
  intro n
  induction n with
  | zero => intro _; rfl
  | succ n ih => intro h; rw [smV, tot, ih (fun k hk => h k (by omega)), if_pos (h n (by omega))]
theorem mx_all {f : Int → Int} {V : Nat} : ∀ n : Nat, (∀ k, k < n → V.testBit k = true) → mxV f V n = totM f n := by
  intro n
  induction n with
  | zero => intro _; rfl
  | succ n ih => intro h; rw [mxV, totM, ih (fun k hk => h k (by omega)), if_pos (h n (by omega))]
def cnV (V n : Nat) : Int := smV (fun _ => 1) V n
theorem cn_s {V n : Nat} : cnV V (n + 1) = cnV V n + (if V.testBit n = true then 1 else 0) := rfl
theorem cn_r {V : Nat} : ∀ n : Nat, 0 ≤ cnV V n ∧ cnV V n ≤ n := by
  intro n
  induction n with
  | zero => exact ⟨Int.le_refl 0, Int.le_refl 0⟩
  | succ n ih =>
    rw [cn_s]
    split <;> omega
theorem cn_in {V w n : Nat} (h : V.testBit w = false) (hw : w < n) : cnV (V ||| 2 ^ w) n = cnV V n + 1 := by
  have e : (fun _ => 1 : Int → Int) = fu (fun _ => 1) w 1 := by
    funext k
    unfold fu
    split <;> rfl
  unfold cnV
  have := sm_in (f := fun _ => 1) (x := 1) h n
  rw [← e, if_pos hw] at this
  exact this
theorem cn_all {V : Nat} : ∀ n : Nat, (n : Int) ≤ cnV V n → ∀ k, k < n → V.testBit k = true := by
  intro n
  induction n with
  | zero => intro _ k hk; omega
  | succ n ih =>
    intro h k hk
    have r := cn_r (V := V) n
    rw [cn_s] at h
    by_cases q : V.testBit n = true
    · rw [if_pos q] at h
      by_cases z : k = n
      · rw [z]; exact q
      · exact ih (by omega) k (by omega)
    · rw [if_neg q] at h; omega
/-- the first who was not served -/
def fst0 (V : Nat) : Nat → Nat
  | 0 => 0
  | n + 1 => if fst0 V n < n then fst0 V n else if V.testBit n = true then n + 1 else n
theorem fst0_ok (V : Nat) : ∀ n : Nat, fst0 V n ≤ n ∧ (∀ j, j < fst0 V n → V.testBit j = true) ∧ (fst0 V n < n → V.testBit (fst0 V n) = false) := by
  intro n
  induction n with
  | zero => exact ⟨Nat.le_refl 0, fun j h => by unfold fst0 at h; omega, fun h => by unfold fst0 at h; omega⟩
  | succ n ih =>
    obtain ⟨a, b, c⟩ := ih
    rw [fst0]
    by_cases q : fst0 V n < n
    · rw [if_pos q]; exact ⟨by omega, b, fun _ => c q⟩
    · rw [if_neg q]
      have e : fst0 V n = n := by omega
      rw [e] at b
      by_cases r : V.testBit n = true
      · rw [if_pos r]
        exact ⟨Nat.le_refl _, fun j hj => by
          by_cases z : j = n
          · rw [z]; exact r
          · exact b j (by omega), fun h => by omega⟩
      · rw [if_neg r]
        exact ⟨by omega, b, fun _ => b_no r⟩
theorem fst0_lt {V n : Nat} (h : cnV V n < n) : fst0 V n < n := by
  obtain ⟨a, b, c⟩ := fst0_ok V n
  rcases Nat.lt_or_ge (fst0 V n) n with q | q
  · exact q
  · have e : fst0 V n = n := by omega
    rw [e] at b
    have := sm_all (f := fun _ => 1) n b
    have t : ∀ m : Nat, tot (fun _ => 1) m = m := by
      intro m
      induction m with
      | zero => rfl
      | succ m ih => rw [tot, ih]; omega
    rw [t] at this
    unfold cnV at h
    omega
def tmv (ca : Int → Int) (V n : Nat) (now : Int) : Int := if fst0 V n < n then m2 now (ca (fst0 V n)) else now
/-- who stands there at t: how many, and the row of them -/
def gth (ca : Int → Int) (V : Nat) (t : Int) : Nat → Int × (Int → Int)
  | 0 => (0, fun _ => 0)
  | k + 1 => if V.testBit k = false ∧ ca k ≤ t then ((gth ca V t k).1 + 1, fu (gth ca V t k).2 (gth ca V t k).1 k) else gth ca V t k
theorem gth_y {ca : Int → Int} {V : Nat} {t : Int} {k : Nat} (h : V.testBit k = false ∧ ca k ≤ t) : gth ca V t (k + 1) = ((gth ca V t k).1 + 1, fu (gth ca V t k).2 (gth ca V t k).1 k) := by rw [gth, if_pos h]
theorem gth_n {ca : Int → Int} {V : Nat} {t : Int} {k : Nat} (h : ¬ (V.testBit k = false ∧ ca k ≤ t)) : gth ca V t (k + 1) = gth ca V t k := by rw [gth, if_neg h]
theorem gth_ok {ca : Int → Int} {V : Nat} {t : Int} : ∀ k : Nat, 0 ≤ (gth ca V t k).1 ∧ (gth ca V t k).1 ≤ k ∧ (∀ p, 0 ≤ p → p < (gth ca V t k).1 → 0 ≤ (gth ca V t k).2 p ∧ (gth ca V t k).2 p < k ∧ V.testBit ((gth ca V t k).2 p).toNat = false ∧ ca ((gth ca V t k).2 p) ≤ t) := by
  intro k
  induction k with
  | zero => exact ⟨Int.le_refl 0, Int.le_refl 0, fun p h1 h2 => by have : p < 0 := h2; omega⟩
  | succ k ih =>
    obtain ⟨a, b, c⟩ := ih
    by_cases h : V.testBit k = false ∧ ca k ≤ t
    · rw [gth_y h]
      refine ⟨by show 0 ≤ _ + 1; omega, by show _ + 1 ≤ _; omega, fun p h1 h2 => ?_⟩
      have h2 : p < (gth ca V t k).1 + 1 := h2
      show 0 ≤ fu (gth ca V t k).2 (gth ca V t k).1 k p ∧ _
      by_cases q : p = (gth ca V t k).1
      · rw [q]
        show 0 ≤ fu (gth ca V t k).2 (gth ca V t k).1 k (gth ca V t k).1 ∧ fu (gth ca V t k).2 (gth ca V t k).1 k (gth ca V t k).1 < _ ∧ V.testBit (fu (gth ca V t k).2 (gth ca V t k).1 k (gth ca V t k).1).toNat = false ∧ ca (fu (gth ca V t k).2 (gth ca V t k).1 k (gth ca V t k).1) ≤ t
        rw [fu_e]
        exact ⟨by omega, by omega, h.1, h.2⟩
      · show 0 ≤ fu (gth ca V t k).2 (gth ca V t k).1 k p ∧ fu (gth ca V t k).2 (gth ca V t k).1 k p < _ ∧ V.testBit (fu (gth ca V t k).2 (gth ca V t k).1 k p).toNat = false ∧ ca (fu (gth ca V t k).2 (gth ca V t k).1 k p) ≤ t
        rw [fu_n q]
        have := c p h1 (by omega)
        exact ⟨this.1, by omega, this.2.2.1, this.2.2.2⟩
    · rw [gth_n h]
      exact ⟨a, by omega, fun p h1 h2 => ⟨(c p h1 h2).1, by have := (c p h1 h2).2.1; omega, (c p h1 h2).2.2⟩⟩
theorem gth_le {ca : Int → Int} {V : Nat} {t : Int} {k : Nat} : ∀ d : Nat, (gth ca V t k).1 ≤ (gth ca V t (k + d)).1 ∧ ∀ p, 0 ≤ p → p < (gth ca V t k).1 → (gth ca V t (k + d)).2 p = (gth ca V t k).2 p := by
  intro d
  induction d with
  | zero => exact ⟨Int.le_refl _, fun _ _ _ => rfl⟩
  | succ d ih =>
    rw [show k + (d + 1) = (k + d) + 1 by omega]
    by_cases h : V.testBit (k + d) = false ∧ ca ((k + d : Nat) : Int) ≤ t
    · rw [gth_y h]
      refine ⟨by show _ ≤ _ + 1; omega, fun p h1 h2 => ?_⟩
      show fu _ _ _ p = _
      rw [fu_n (by omega)]
      exact ih.2 p h1 h2
    · rw [gth_n h]; exact ih
theorem gth_st {ca : Int → Int} {V : Nat} {t : Int} {k n : Nat} (h : k ≤ n) : (gth ca V t k).1 ≤ (gth ca V t n).1 ∧ ∀ p, 0 ≤ p → p < (gth ca V t k).1 → (gth ca V t n).2 p = (gth ca V t k).2 p := by
  have := gth_le (ca := ca) (V := V) (t := t) (k := k) (n - k)
  rw [show k + (n - k) = n by omega] at this
  exact this
theorem gth_pos {ca : Int → Int} {V : Nat} {t : Int} {k n : Nat} (hk : k < n) (h : V.testBit k = false ∧ ca k ≤ t) : 0 < (gth ca V t n).1 := by
  have a := (gth_st (ca := ca) (V := V) (t := t) (show k + 1 ≤ n from hk)).1
  rw [gth_y h] at a
  have b := (gth_ok (ca := ca) (V := V) (t := t) k).1
  have a : (gth ca V t k).1 + 1 ≤ (gth ca V t n).1 := a
  omega
theorem gth_at {ca : Int → Int} {V : Nat} {t : Int} {k n : Nat} (hk : k < n) (h : V.testBit k = false ∧ ca k ≤ t) : (gth ca V t n).2 (gth ca V t k).1 = k := by
  have a := (gth_st (ca := ca) (V := V) (t := t) (show k + 1 ≤ n from hk)).2 (gth ca V t k).1 (gth_ok k).1 (by rw [gth_y h]; show _ < _ + 1; omega)
  rw [a, gth_y h]
  exact fu_e
theorem gth_0 {ca : Int → Int} {V : Nat} {t : Int} : ∀ n : Nat, (∀ k, k < n → V.testBit k = false → t < ca k) → (gth ca V t n).1 = 0 := by
  intro n
  induction n with
  | zero => intro _; rfl
  | succ n ih =>
    intro h
    rw [gth_n (fun z => by have := h n (by omega) z.1; omega)]
    exact ih (fun k hk => h k (by omega))
/-- sorted by when they came, none negative, none late -/
def srt (ca tk : Int → Int) (n : Nat) : Prop := n ≤ 8 ∧ ∀ k : Int, 0 ≤ k → k < n → 0 ≤ ca k ∧ ca k ≤ 200 ∧ 1 ≤ tk k ∧ tk k ≤ 20 ∧ (k + 1 < n → ca k ≤ ca (k + 1))
theorem srt.le {ca tk : Int → Int} {n : Nat} (h : srt ca tk n) {i : Nat} : ∀ d : Nat, i + d < n → ca i ≤ ca ((i + d : Nat) : Int) := by
  intro d
  induction d with
  | zero => intro _; exact Int.le_refl _
  | succ d ih =>
    intro hd
    have a := ih (by omega)
    have b := (h.2 ((i + d : Nat) : Int) (by omega) (by omega)).2.2.2.2 (by omega)
    rw [show ((i + d : Nat) : Int) + 1 = ((i + (d + 1) : Nat) : Int) by omega] at b
    omega
theorem srt.mono {ca tk : Int → Int} {n : Nat} (h : srt ca tk n) {i j : Nat} (hij : i ≤ j) (hj : j < n) : ca i ≤ ca j := by
  have := h.le (i := i) (j - i) (by omega)
  rw [show i + (j - i) = j by omega] at this
  exact this
theorem tmv_r {ca tk : Int → Int} {V n : Nat} {now : Int} (h : srt ca tk n) (hn : 0 ≤ now) : now ≤ tmv ca V n now ∧ (tmv ca V n now = now ∨ tmv ca V n now ≤ 200) ∧ 0 ≤ tmv ca V n now := by
  unfold tmv m2
  by_cases q : fst0 V n < n
  · rw [if_pos q]
    have := h.2 (fst0 V n) (by omega) (by omega)
    split <;> omega
  · rw [if_neg q]; omega
/-- somebody stands there as the counter serves -/
theorem gth_tm {ca tk : Int → Int} {V n : Nat} {now : Int} (_h : srt ca tk n) (hf : fst0 V n < n) : 0 < (gth ca V (tmv ca V n now) n).1 := by
  refine gth_pos hf ⟨(fst0_ok V n).2.2 hf, ?_⟩
  unfold tmv m2
  rw [if_pos hf]
  split <;> omega
theorem gth_now {ca tk : Int → Int} {V n : Nat} {now : Int} (h : srt ca tk n) (hf : fst0 V n < n) : (now < ca (fst0 V n) → (gth ca V now n).1 = 0) ∧ (¬ now < ca (fst0 V n) → 0 < (gth ca V now n).1) := by
  have o := fst0_ok V n
  refine ⟨fun q => gth_0 n (fun k hk hb => ?_), fun q => gth_pos hf ⟨o.2.2 hf, by omega⟩⟩
  have : fst0 V n ≤ k := by
    rcases Nat.lt_or_ge k (fst0 V n) with z | z
    · have := o.2.1 k z
      rw [hb] at this
      cases this
    · exact z
  have := h.mono this hk
  omega
/-! who is next by a law -/
def nmR (ca tk : Int → Int) (t m : Int) (row : Int → Int) (p n : Int) : Int :=
  if n = 0 then ca (row p) else if n = 1 then t - ca (row p) else if n = 2 then tk (row p) else if n = 3 then 0 else if n = 4 then p else if n = 5 then m - 1 - p else if n = 6 then m else if n = 7 then t else if n = 8 then 200 - t else 0
def plR (s : mm_M) (l t : Int) (g : Int × (Int → Int)) : Int := if 4 ≤ l ∧ l - 4 < s 19 4 then (bs (s 22 (l - 4)) (fun p => lv s (l - 4) (nmR (s 200) (s 201) t g.1 g.2 p)) g.1.toNat).1 else pb l g.1
theorem plR_r {s : mm_M} {l t : Int} {g : Int × (Int → Int)} (h : 0 < g.1 ∧ g.1 ≤ 8) : 0 ≤ plR s l t g ∧ plR s l t g < g.1 := by
  unfold plR
  by_cases q : 4 ≤ l ∧ l - 4 < s 19 4
  · rw [if_pos q]
    have := bs_r (s 22 (l - 4)) (fun p => lv s (l - 4) (nmR (s 200) (s 201) t g.1 g.2 p)) g.1.toNat (by omega)
    omega
  · rw [if_neg q]
    unfold pb
    rw [n32_id (x := g.1) (by omega) (by omega), Int.tdiv_eq_ediv_of_nonneg (by omega)]
    split
    · omega
    · split <;> omega
def whR (s : mm_M) (l : Int) (n V : Nat) (t : Int) : Int := (gth (s 200) V t n).2 (plR s l t (gth (s 200) V t n))
def rn (s : mm_M) (l : Int) (n : Nat) : Nat → Nat × Int
  | 0 => (0, 0)
  | i + 1 => ((rn s l n i).1 ||| 2 ^ (whR s l n (rn s l n i).1 (tmv (s 200) (rn s l n i).1 n (rn s l n i).2)).toNat, tmv (s 200) (rn s l n i).1 n (rn s l n i).2 + s 201 (whR s l n (rn s l n i).1 (tmv (s 200) (rn s l n i).1 n (rn s l n i).2)))
def rtm (s : mm_M) (l : Int) (n i : Nat) : Int := tmv (s 200) (rn s l n i).1 n (rn s l n i).2
def rwh (s : mm_M) (l : Int) (n i : Nat) : Int := whR s l n (rn s l n i).1 (rtm s l n i)
theorem rn_s {s : mm_M} {l : Int} {n i : Nat} : rn s l n (i + 1) = ((rn s l n i).1 ||| 2 ^ (rwh s l n i).toNat, rtm s l n i + s 201 (rwh s l n i)) := rfl
def rO (s : mm_M) (l : Int) (n : Nat) : Nat → Int → Int
  | 0 => fun _ => 0
  | i + 1 => fu (rO s l n i) i (rwh s l n i)
def rWt (s : mm_M) (l : Int) (n : Nat) : Nat → Int → Int
  | 0 => fun _ => 0
  | i + 1 => fu (rWt s l n i) (rwh s l n i) (rtm s l n i - s 200 (rwh s l n i))
theorem rn_ok {s : mm_M} {l : Int} {n : Nat} (h : srt (s 200) (s 201) n) : ∀ i : Nat, i ≤ n → (rn s l n i).1 < 256 ∧ cnV (rn s l n i).1 n = i ∧ 0 ≤ (rn s l n i).2 ∧ (rn s l n i).2 ≤ 200 + 20 * i ∧ (∀ k : Int, 0 ≤ k → k < n → 0 ≤ rWt s l n i k ∧ rWt s l n i k ≤ 400) ∧ (∀ k : Int, 0 ≤ k → k < n → 0 ≤ rO s l n i k ∧ rO s l n i k < 8) ∧
    (i < n → fst0 (rn s l n i).1 n < n ∧ 0 ≤ rtm s l n i ∧ rtm s l n i ≤ 200 + 20 * i ∧ 0 < (gth (s 200) (rn s l n i).1 (rtm s l n i) n).1 ∧ 0 ≤ rwh s l n i ∧ rwh s l n i < n ∧ (rn s l n i).1.testBit (rwh s l n i).toNat = false ∧ s 200 (rwh s l n i) ≤ rtm s l n i) := by
  have n8 := h.1
  have more : ∀ i : Nat, i < n → cnV (rn s l n i).1 n = i → 0 ≤ (rn s l n i).2 → (rn s l n i).2 ≤ 200 + 20 * i → fst0 (rn s l n i).1 n < n ∧ 0 ≤ rtm s l n i ∧ rtm s l n i ≤ 200 + 20 * i ∧ 0 < (gth (s 200) (rn s l n i).1 (rtm s l n i) n).1 ∧ 0 ≤ rwh s l n i ∧ rwh s l n i < n ∧ (rn s l n i).1.testBit (rwh s l n i).toNat = false ∧ s 200 (rwh s l n i) ≤ rtm s l n i := by
    intro i hi b c d
    have f := fst0_lt (V := (rn s l n i).1) (n := n) (by rw [b]; omega)
    have t := tmv_r (V := (rn s l n i).1) h c
    have g := gth_tm (V := (rn s l n i).1) (now := (rn s l n i).2) h f
    have o := gth_ok (ca := s 200) (V := (rn s l n i).1) (t := rtm s l n i) n
    have p := plR_r (s := s) (l := l) (t := rtm s l n i) (g := gth (s 200) (rn s l n i).1 (rtm s l n i) n) ⟨g, by omega⟩
    have w := o.2.2 _ p.1 p.2
    exact ⟨f, t.2.2, by have e : rtm s l n i = tmv (s 200) (rn s l n i).1 n (rn s l n i).2 := rfl; omega, g, w.1, w.2.1, w.2.2.1, w.2.2.2⟩
  intro i
  induction i with
  | zero =>
    intro _
    have c0 : cnV (rn s l n 0).1 n = ((0 : Nat) : Int) := by
      have : ∀ m : Nat, cnV 0 m = 0 := by
        intro m
        induction m with
        | zero => rfl
        | succ m ih => rw [cn_s, ih, Nat.zero_testBit, if_neg (by decide)]; rfl
      exact this n
    refine ⟨by show 0 < 256; omega, c0, Int.le_refl 0, by show (0 : Int) ≤ _; omega, fun k _ _ => by show (0 : Int) ≤ 0 ∧ (0 : Int) ≤ 400; omega, fun k _ _ => by show (0 : Int) ≤ 0 ∧ (0 : Int) < 8; omega, fun hi => more 0 hi c0 (Int.le_refl 0) (by show (0 : Int) ≤ _; omega)⟩
  | succ i ih =>
    intro hi
    obtain ⟨a1, a2, a3, a4, a5, a5', a6⟩ := ih (by omega)
    obtain ⟨b1, b2, b3, b4, b5, b6, b7, b8⟩ := a6 (by omega)
    have bo := b_or (rn s l n i).1 a1 (rwh s l n i).toNat (by omega)
    have k := h.2 (rwh s l n i) b5 b6
    have c1 : (rn s l n (i + 1)).1 < 256 := bo.2
    have c2 : cnV (rn s l n (i + 1)).1 n = ((i + 1 : Nat) : Int) := by
      rw [rn_s]
      show cnV ((rn s l n i).1 ||| 2 ^ (rwh s l n i).toNat) n = _
      rw [cn_in b7 (by omega), a2]; omega
    have c3 : (rn s l n (i + 1)).2 = rtm s l n i + s 201 (rwh s l n i) := rfl
    refine ⟨c1, c2, by omega, by omega, fun k k1 k2 => ?_, fun k k1 k2 => ?_, fun hi2 => more (i + 1) hi2 c2 (by omega) (by omega)⟩
    · show 0 ≤ fu _ _ _ k ∧ fu _ _ _ k ≤ 400
      by_cases z : k = rwh s l n i
      · rw [z, fu_e]; omega
      · rw [fu_n z]; exact a5 k k1 k2
    · show 0 ≤ fu _ _ _ k ∧ fu _ _ _ k < 8
      by_cases z : k = i
      · rw [z, fu_e]; omega
      · rw [fu_n z]; exact a5' k k1 k2
