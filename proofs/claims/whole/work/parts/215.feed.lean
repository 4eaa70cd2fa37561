/-! promise 2: the bytes of a word -/
def uT (a : Int) : Int := ((mm_I a).toBitVec.toNat : Int)
theorem uT_n (a : Int) : 0 ≤ uT a ∧ uT a < 4294967296 ∧ (n32 a = uT a ∧ uT a < 2147483648 ∨ n32 a = uT a - 4294967296 ∧ 2147483648 ≤ uT a) := by
  have h1 : (mm_I a).toBitVec.toNat < 2 ^ 32 := (mm_I a).toBitVec.isLt
  have h2 : n32 a = (mm_I a).toBitVec.toInt := rfl
  rw [BitVec.toInt_eq_toNat_cond] at h2
  unfold uT
  by_cases q : 2 * (mm_I a).toBitVec.toNat < 2 ^ 32
  · rw [if_pos q] at h2
    omega
  · rw [if_neg q] at h2
    omega
theorem fb_c (a y : Int) (k : Nat) (hk : k < 32) (hy : ((mm_I y).toUInt32 &&& Int32.toUInt32 31).toBitVec.toNat % 32 = k) (hy2 : (((mm_I y).toUInt32 &&& Int32.toUInt32 31).toBitVec % 32).toNat = k) : mm_and (mm_ushr a y) 255 = uT a / 2 ^ k % 256 := by
  unfold mm_and mm_ushr
  rw [mm_I_toInt]
  rw [pk_and _ 8 (show (mm_I 255).toBitVec.toNat = 2 ^ 8 - 1 by decide)]
  rw [pk_ushr _ _ k hy2]
  have hb : (mm_I a).toBitVec.toNat / 2 ^ k % 2 ^ 8 < 2 ^ 31 := Nat.lt_of_lt_of_le (Nat.mod_lt _ (by decide)) (by decide)
  rw [nI_toInt hb]
  unfold uT
  omega
theorem b8_c (x : Int) : mm_b8 x = (n32 x).bmod 256 := by
  unfold mm_b8
  rw [Int8.toInt_toInt32, Int32.toInt_toInt8]
  rfl
theorem shr_c (a y : Int) (k : Nat) (hy : ((mm_I y &&& 31).toBitVec.smod 32).toNat = k) : mm_shr a y = n32 a / 2 ^ k := by
  unfold mm_shr
  rw [pk_shr _ _ k hy, Int.shiftRight_eq_div_pow]
  rfl
theorem bm (x : Int) : (x.bmod 256 = x % 256 ∧ x % 256 < 128) ∨ (x.bmod 256 = x % 256 - 256 ∧ 128 ≤ x % 256) := by
  unfold Int.bmod
  by_cases h : x % 256 < 128
  · left
    exact ⟨if_pos (by omega), h⟩
  · right
    exact ⟨if_neg (by omega), by omega⟩
def fb (a y : Int) : Int := mm_and (mm_ushr a y) 255
def rb (a y : Int) : Int := mm_b8 (mm_b8 (mm_shr a y))
theorem rb_k {a y v : Int} (h : mm_shr a y = v) (h1 : -2147483648 ≤ v) (h2 : v ≤ 2147483647) : rb a y = v.bmod 256 := by
  unfold rb
  rw [h, b8_c, b8_c, n32_id (x := v) h1 h2]
  have := bm v
  rw [n32_id (x := v.bmod 256) (by omega) (by omega)]
  have h3 := bm (v.bmod 256)
  omega
theorem fr_ok {a y : Int} (hy : y = 24 ∨ y = 16 ∨ y = 8 ∨ y = 0) : 0 ≤ fb a y ∧ fb a y ≤ 255 ∧ (rb a y = fb a y ∧ fb a y ≤ 127 ∨ rb a y = fb a y - 256 ∧ 128 ≤ fb a y) := by
  have u := uT_n a
  have hn := n32_ge a
  have hn2 := n32_lt a
  rcases hy with h | h | h | h <;> subst h
  · have e1 : fb a 24 = uT a / 2 ^ 24 % 256 := fb_c a 24 24 (by decide) (by decide) (by decide)
    have e2 : mm_shr a 24 = n32 a / 2 ^ 24 := shr_c a 24 24 (by decide)
    have e3 := rb_k e2 (by omega) (by omega)
    have := bm (n32 a / 2 ^ 24)
    omega
  · have e1 : fb a 16 = uT a / 2 ^ 16 % 256 := fb_c a 16 16 (by decide) (by decide) (by decide)
    have e2 : mm_shr a 16 = n32 a / 2 ^ 16 := shr_c a 16 16 (by decide)
    have e3 := rb_k e2 (by omega) (by omega)
    have := bm (n32 a / 2 ^ 16)
    omega
  · have e1 : fb a 8 = uT a / 2 ^ 8 % 256 := fb_c a 8 8 (by decide) (by decide) (by decide)
    have e2 : mm_shr a 8 = n32 a / 2 ^ 8 := shr_c a 8 8 (by decide)
    have e3 := rb_k e2 (by omega) (by omega)
    have := bm (n32 a / 2 ^ 8)
    omega
  · have e1 : fb a 0 = uT a / 2 ^ 0 % 256 := fb_c a 0 0 (by decide) (by decide) (by decide)
    have e2 : mm_shr a 0 = n32 a / 2 ^ 0 := shr_c a 0 0 (by decide)
    have e3 := rb_k e2 (by omega) (by omega)
    have := bm (n32 a / 2 ^ 0)
    omega
/-- what a word's four bytes do to the text -/
def apd (s t : mm_M) (n a : Int) : Prop := t 7 1 = n + 4 ∧ (∀ j : Int, n ≤ j → j < n + 4 → t 8 j = fb a (24 - 8 * (j - n))) ∧ (∀ j : Int, j < n ∨ n + 4 ≤ j → t 8 j = s 8 j) ∧ (∀ j : Int, j ≠ 1 → t 7 j = s 7 j) ∧ ∀ c : Nat, c ≠ 7 → c ≠ 8 → t c = s c
theorem s_apd {s : mm_M} {n a : Int} {post : mm_M → Prop} (hn : s 7 1 = n) (h0 : 0 ≤ n) (h1 : n + 4 ≤ 500) (hp : ∀ t, apd s t n a → post t) : wp_X8_append 7 a s post := by
  intro L3 h3
  have step : ∀ (v : Int) (m : Int) (t : mm_M), 0 ≤ v → v ≤ 24 → 0 ≤ m → m < 500 → t 7 1 = m → L3 (v + (-8)) (mm_up (mm_up t 8 m (fb a v)) 7 1 (m + 1)) → L3 v t := by
    intro v m t v1 v2 m1 m2 ht hL
    apply h3
    rw [ht, n32_id (x := v) (by omega) (by omega), n32_id (x := m) (by omega) (by omega), show mm_rt 7 0 = 8 from rfl]
    refine ⟨fun q => by omega, fun _ => ⟨fun q => by omega, fun _ => ⟨⟨m1, m2⟩, fun t1 e1 t2 e2 w ew => ?_⟩⟩⟩
    have g : t1 7 1 = m := by rw [e1, up_c (by decide), ht]
    rw [g] at e2
    subst ew; subst e2; subst e1
    exact hL
  have e8 : ∀ {t : mm_M} {j v : Int}, mm_up t 7 1 v 8 j = t 8 j := fun {t j v} => up_n (Or.inl (by decide))
  refine step 24 n s (by omega) (by omega) h0 (by omega) hn ?_
  refine step 16 (n + 1) _ (by omega) (by omega) (by omega) (by omega) up_e ?_
  refine step 8 (n + 1 + 1) _ (by omega) (by omega) (by omega) (by omega) up_e ?_
  refine step 0 (n + 1 + 1 + 1) _ (by omega) (by omega) (by omega) (by omega) up_e ?_
  apply h3
  have hq : n32 (0 + (-8)) < 0 := by decide
  refine ⟨fun _ => hp _ ?_, fun z => absurd hq z⟩
  refine ⟨by rw [up_e]; omega, fun j j1 j2 => ?_, fun j hj => ?_, fun j hj => ?_, fun c c1 c2 => ?_⟩
  · rw [e8]
    rcases (show j = n + 1 + 1 + 1 ∨ j = n + 1 + 1 ∨ j = n + 1 ∨ j = n by omega) with h | h | h | h
    · subst h
      rw [up_e, show 24 - 8 * (n + 1 + 1 + 1 - n) = 0 by omega]
    · subst h
      rw [up_n (Or.inr (by omega)), e8, up_e, show 24 - 8 * (n + 1 + 1 - n) = 8 by omega]
    · subst h
      rw [up_n (Or.inr (by omega)), e8, up_n (Or.inr (by omega)), e8, up_e, show 24 - 8 * (n + 1 - n) = 16 by omega]
    · subst h
      rw [up_n (Or.inr (by omega)), e8, up_n (Or.inr (by omega)), e8, up_n (Or.inr (by omega)), e8, up_e, show 24 - 8 * (j - j) = 24 by omega]
  · rw [e8, up_n (Or.inr (by omega)), e8, up_n (Or.inr (by omega)), e8, up_n (Or.inr (by omega)), e8, up_n (Or.inr (by omega))]
  · rw [up_n (Or.inr hj), up_n (Or.inl (by decide)), up_n (Or.inr hj), up_n (Or.inl (by decide)), up_n (Or.inr hj), up_n (Or.inl (by decide)), up_n (Or.inr hj), up_n (Or.inl (by decide))]
  · rw [up_c c1, up_c c2, up_c c1, up_c c2, up_c c1, up_c c2, up_c c1, up_c c2]
def wd (a b c d e j : Int) : Int := if j < 4 then a else if j < 8 then b else if j < 12 then c else if j < 16 then d else e
