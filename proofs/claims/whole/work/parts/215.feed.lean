/-! promise 2: the bytes of a word -/
def uT (a : Int) : Int := ((mm_I a).toBitVec.toNat : Int)
theorem uT_n (a : Int) : 0 ≤ uT a ∧ uT a < 4294967296 ∧ (n32 a = uT a ∧ uT a < 2147483648 ∨ n32 a = uT a - 4294967296 ∧ 2147483648 ≤ uT a) := by
  have h1 : (mm_I a).toBitVec.toNat < 2 ^ 32 := (mm_I a).toBitVec.isLt
  have h2 : n32 a = (mm_I a).toBitVec.toInt := rfl
  rw [BitVec.toInt_eq_toNat_cond] at h2
  unfold uT
  by_cases q : 2 * (mm_I a).toBitVec.toNat < 2 ^ 32
  · rw [if_pos q] at h2
    omega
  · rw [if_neg q] at h2
    omega
theorem fb_c (a y : Int) (k : Nat) (hk : k < 32) (hy : ((mm_I y).toUInt32 &&& Int32.toUInt32 31).toBitVec.toNat % 32 = k) (hy2 : (((mm_I y).toUInt32 &&& Int32.toUInt32 31).toBitVec % 32).toNat = k) : mm_and (mm_ushr a y) 255 = uT a / 2 ^ k % 256 := by
  unfold mm_and mm_ushr
  rw [mm_I_toInt]
  rw [pk_and _ 8 (show (mm_I 255).toBitVec.toNat = 2 ^ 8 - 1 by decide)]
  rw [pk_ushr _ _ k hy2]
  have hb : (mm_I a).toBitVec.toNat / 2 ^ k % 2 ^ 8 < 2 ^ 31 := Nat.lt_of_lt_of_le (Nat.mod_lt _ (by decide)) (by decide)
  rw [nI_toInt hb]
  unfold uT
  rw [Int.natCast_emod, Int.natCast_ediv, Int.natCast_pow]
  rfl
theorem b8_c (x : Int) : mm_b8 x = (n32 x).bmod 256 := by
  unfold mm_b8
  rw [Int8.toInt_toInt32, Int32.toInt_toInt8]
  rfl
theorem shr_c (a y : Int) (k : Nat) (hy : ((mm_I y &&& 31).toBitVec.smod 32).toNat = k) : mm_shr a y = n32 a / 2 ^ k := by
  unfold mm_shr
  rw [pk_shr _ _ k hy, Int.shiftRight_eq_div_pow]
  rfl
theorem bm (x : Int) : (x.bmod 256 = x % 256 ∧ x % 256 < 128) ∨ (x.bmod 256 = x % 256 - 256 ∧ 128 ≤ x % 256) := by
  unfold Int.bmod
  by_cases h : x % 256 < 128
  · left
    exact ⟨if_pos (by omega), h⟩
  · right
    exact ⟨if_neg (by omega), by omega⟩
def fb (a y : Int) : Int := mm_and (mm_ushr a y) 255
def rb (a y : Int) : Int := mm_b8 (mm_b8 (mm_shr a y))
theorem rb_k {a y v : Int} (h : mm_shr a y = v) (h1 : -2147483648 ≤ v) (h2 : v ≤ 2147483647) : rb a y = v.bmod 256 := by
  unfold rb
  rw [h, b8_c, b8_c, n32_id (x := v) h1 h2]
  have := bm v
  rw [n32_id (x := v.bmod 256) (by omega) (by omega)]
  have h3 := bm (v.bmod 256)
  omega
theorem fr_ok {a y : Int} (hy : y = 24 ∨ y = 16 ∨ y = 8 ∨ y = 0) : 0 ≤ fb a y ∧ fb a y ≤ 255 ∧ (rb a y = fb a y ∧ fb a y ≤ 127 ∨ rb a y = fb a y - 256 ∧ 128 ≤ fb a y) := by
  have u := uT_n a
  have hn := n32_ge a
  have hn2 := n32_lt a
  rcases hy with h | h | h | h <;> subst h
  · have e1 : fb a 24 = uT a / 2 ^ 24 % 256 := fb_c a 24 24 (by decide) (by decide) (by decide)
    have e2 : mm_shr a 24 = n32 a / 2 ^ 24 := shr_c a 24 24 (by decide)
    have e3 := rb_k e2 (by omega) (by omega)
    have := bm (n32 a / 2 ^ 24)
    omega
  · have e1 : fb a 16 = uT a / 2 ^ 16 % 256 := fb_c a 16 16 (by decide) (by decide) (by decide)
    have e2 : mm_shr a 16 = n32 a / 2 ^ 16 := shr_c a 16 16 (by decide)
    have e3 := rb_k e2 (by omega) (by omega)
    have := bm (n32 a / 2 ^ 16)
    omega
  · have e1 : fb a 8 = uT a / 2 ^ 8 % 256 := fb_c a 8 8 (by decide) (by decide) (by decide)
    have e2 : mm_shr a 8 = n32 a / 2 ^ 8 := shr_c a 8 8 (by decide)
    have e3 := rb_k e2 (by omega) (by omega)
    have := bm (n32 a / 2 ^ 8)
    omega
  · have e1 : fb a 0 = uT a / 2 ^ 0 % 256 := fb_c a 0 0 (by decide) (by decide) (by decide)
    have e2 : mm_shr a 0 = n32 a / 2 ^ 0 := shr_c a 0 0 (by decide)
    have e3 := rb_k e2 (by omega) (by omega)
    have := bm (n32 a / 2 ^ 0)
    omega
/-- what a word's four bytes do to the text -/
def apd (s t : mm_M) (n a : Int) : Prop := t 7 1 = n + 4 ∧ (∀ j : Int, n ≤ j → j < n + 4 → t 8 j = fb a (24 - 8 * (j - n))) ∧ (∀ j : Int, j < n ∨ n + 4 ≤ j → t 8 j = s 8 j) ∧ (∀ j : Int, j ≠ 1 → t 7 j = s 7 j) ∧ ∀ c : Nat, c ≠ 7 → c ≠ 8 → t c = s c
theorem s_apd {s : mm_M} {n a : Int} {post : mm_M → Prop} (hn : s 7 1 = n) (h0 : 0 ≤ n) (h1 : n + 4 ≤ 500) (hp : ∀ t, apd s t n a → post t) : wp_X8_append 7 a s post := by
  intro L3 h3
  have step : ∀ (v : Int) (m : Int) (t : mm_M), 0 ≤ v → v ≤ 24 → 0 ≤ m → m < 500 → t 7 1 = m → L3 (v + (-8)) (mm_up (mm_up t 8 m (fb a v)) 7 1 (m + 1)) → L3 v t := by
    intro v m t v1 v2 m1 m2 ht hL
    apply h3
    rw [ht, n32_id (x := v) (by omega) (by omega), n32_id (x := m) (by omega) (by omega), show mm_rt 7 0 = 8 from rfl]
    refine ⟨fun q => by omega, fun _ => ⟨fun q => by omega, fun _ => ⟨⟨m1, m2⟩, fun t1 e1 t2 e2 w ew => ?_⟩⟩⟩
    have g : t1 7 1 = m := by rw [e1, up_c (by decide), ht]
    rw [g] at e2
    subst ew; subst e2; subst e1
    exact hL
  have e8 : ∀ {t : mm_M} {j v : Int}, mm_up t 7 1 v 8 j = t 8 j := fun {t j v} => up_n (Or.inl (by decide))
  refine step 24 n s (by omega) (by omega) h0 (by omega) hn ?_
  refine step 16 (n + 1) _ (by omega) (by omega) (by omega) (by omega) up_e ?_
  refine step 8 (n + 1 + 1) _ (by omega) (by omega) (by omega) (by omega) up_e ?_
  refine step 0 (n + 1 + 1 + 1) _ (by omega) (by omega) (by omega) (by omega) up_e ?_
  apply h3
  have hq : n32 (0 + (-8)) < 0 := by decide
  refine ⟨fun _ => hp _ ?_, fun z => absurd hq z⟩
  refine ⟨by rw [up_e]; omega, fun j j1 j2 => ?_, fun j hj => ?_, fun j hj => ?_, fun c c1 c2 => ?_⟩
  · rw [e8]
    rcases (show j = n + 1 + 1 + 1 ∨ j = n + 1 + 1 ∨ j = n + 1 ∨ j = n by omega) with h | h | h | h
    · subst h
      rw [up_e, show 24 - 8 * (n + 1 + 1 + 1 - n) = 0 by omega]
    · subst h
      rw [up_n (Or.inr (by omega)), e8, up_e, show 24 - 8 * (n + 1 + 1 - n) = 8 by omega]
    · subst h
      rw [up_n (Or.inr (by omega)), e8, up_n (Or.inr (by omega)), e8, up_e, show 24 - 8 * (n + 1 - n) = 16 by omega]
    · subst h
      rw [up_n (Or.inr (by omega)), e8, up_n (Or.inr (by omega)), e8, up_n (Or.inr (by omega)), e8, up_e, show 24 - 8 * (j - j) = 24 by omega]
  · rw [e8, up_n (Or.inr (by omega)), e8, up_n (Or.inr (by omega)), e8, up_n (Or.inr (by omega)), e8, up_n (Or.inr (by omega))]
  · rw [up_n (Or.inr hj), up_n (Or.inl (by decide)), up_n (Or.inr hj), up_n (Or.inl (by decide)), up_n (Or.inr hj), up_n (Or.inl (by decide)), up_n (Or.inr hj), up_n (Or.inl (by decide))]
  · rw [up_c c1, up_c c2, up_c c1, up_c c2, up_c c1, up_c c2, up_c c1, up_c c2]
def wd (a b c d e j : Int) : Int := if j < 4 then a else if j < 8 then b else if j < 12 then c else if j < 16 then d else e
/-- the class's side: twenty bytes more -/
theorem s_ap5 {s : mm_M} {n a b c d e : Int} {post : mm_M → Prop} (hn : s 7 1 = n) (h0 : 0 ≤ n) (h1 : n ≤ 480)
    (hp : ∀ t : mm_M, t 7 1 = n + 20 → (∀ j : Int, 0 ≤ j → j < 20 → t 8 (n + j) = fb (wd a b c d e j) (24 - 8 * (j % 4))) → (∀ j : Int, j < n → t 8 j = s 8 j) → (∀ c : Nat, c ≠ 7 → c ≠ 8 → t c = s c) → post t) :
    wp_X8_append 7 a s (fun s1 => wp_X8_append 7 b s1 (fun s2 => wp_X8_append 7 c s2 (fun s3 => wp_X8_append 7 d s3 (fun s4 => wp_X8_append 7 e s4 post)))) := by
  refine s_apd hn h0 (by omega) (fun t1 a1 => ?_)
  refine s_apd a1.1 (by omega) (by omega) (fun t2 a2 => ?_)
  refine s_apd a2.1 (by omega) (by omega) (fun t3 a3 => ?_)
  refine s_apd a3.1 (by omega) (by omega) (fun t4 a4 => ?_)
  refine s_apd a4.1 (by omega) (by omega) (fun t5 a5 => ?_)
  obtain ⟨b1, b2, b3, b4, b5⟩ := a1
  obtain ⟨c1, c2, c3, c4, c5⟩ := a2
  obtain ⟨d1, d2, d3, d4, d5⟩ := a3
  obtain ⟨e1, e2, e3, e4, e5⟩ := a4
  obtain ⟨f1, f2, f3, f4, f5⟩ := a5
  refine hp t5 (by omega) (fun j j0 j1 => ?_) (fun j hj => ?_) (fun c q1 q2 => ?_)
  · unfold wd
    by_cases q1 : j < 4
    · rw [if_pos q1, f3 _ (by omega), e3 _ (by omega), d3 _ (by omega), c3 _ (by omega), b2 _ (by omega) (by omega)]
      congr 1; omega
    rw [if_neg q1]
    by_cases q2 : j < 8
    · rw [if_pos q2, f3 _ (by omega), e3 _ (by omega), d3 _ (by omega), c2 _ (by omega) (by omega)]
      congr 1; omega
    rw [if_neg q2]
    by_cases q3 : j < 12
    · rw [if_pos q3, f3 _ (by omega), e3 _ (by omega), d2 _ (by omega) (by omega)]
      congr 1; omega
    rw [if_neg q3]
    by_cases q4 : j < 16
    · rw [if_pos q4, f3 _ (by omega), e2 _ (by omega) (by omega)]
      congr 1; omega
    rw [if_neg q4, f2 _ (by omega) (by omega)]
    congr 1; omega
  · rw [f3 _ (by omega), e3 _ (by omega), d3 _ (by omega), c3 _ (by omega), b3 _ (by omega)]
  · rw [f5 _ q1 q2, e5 _ q1 q2, d5 _ q1 q2, c5 _ q1 q2, b5 _ q1 q2]
/-- the reference's side -/
theorem s_rf {s : mm_M} {n a b c d e : Int} {post : Int → mm_M → Prop} (hn : s 211 1 = n) (h0 : 0 ≤ n) (h1 : n ≤ 480)
    (hp : ∀ t : mm_M, t 211 1 = n + 20 → (∀ j : Int, 0 ≤ j → j < 20 → t 212 (n + j) = rb (wd a b c d e j) (24 - 8 * (j % 4))) → (∀ j : Int, j < n → t 212 j = s 212 j) → (∀ j : Int, j ≠ 1 → t 211 j = s 211 j) → (∀ c : Nat, c ≠ 211 → c ≠ 212 → t c = s c) → post (n + 20) t) :
    wp_X11_feed 211 a b c d e s post := by
  intro L18 L71 h18 h71
  rw [hn]
  have n1 : n32 (n + 20) = n + 20 := n32_id (by omega) (by omega)
  rw [n1]
  refine ⟨fun _ => ?_, fun q => by omega⟩
  have key : ∀ r k : Nat, k + r = 20 → ∀ t : mm_M, t 211 1 = n + k → (∀ j : Int, 0 ≤ j → j < k → t 212 (n + j) = rb (wd a b c d e j) (24 - 8 * (j % 4))) → (∀ j : Int, j < n → t 212 j = s 212 j) → (∀ j : Int, j ≠ 1 → t 211 j = s 211 j) → (∀ c : Nat, c ≠ 211 → c ≠ 212 → t c = s c) → L18 k t := by
    intro r
    induction r with
    | zero =>
      intro k hk t g1 g2 g3 g4 g5
      have e : k = 20 := by omega
      subst e
      apply h18
      refine ⟨fun _ => ?_, fun q => absurd (by decide) q⟩
      rw [g1]
      exact hp t g1 g2 g3 g4 g5
    | succ r ih =>
      intro k hk t g1 g2 g3 g4 g5
      have nk : n32 (k : Int) = k := n32_id (by omega) (by omega)
      have go : L71 k (wd a b c d e k) t := by
        apply h71
        rw [nk, g1, show mm_rt 211 0 = 212 from rfl]
        intro v ev
        refine ⟨⟨by omega, by omega⟩, fun t1 e1 t2 e2 v6 e6 => ?_⟩
        subst ev
        have g : t1 211 1 = n + k := by rw [e1, up_c (by decide), g1]
        rw [g] at e2
        rw [e6, show (k : Int) + 1 = ((k + 1 : Nat) : Int) by omega]
        have hm : Int.tmod (k : Int) 4 = (k : Int) % 4 := Int.tmod_eq_emod_of_nonneg (by omega)
        rw [hm] at e1
        subst e2; subst e1
        refine ih (k + 1) (by omega) _ (by rw [up_e]; omega) (fun j j0 j1 => ?_) (fun j hj => ?_) (fun j hj => ?_) (fun c q1 q2 => ?_)
        · rw [up_n (Or.inl (by decide))]
          by_cases q : j = k
          · rw [q, up_e]
            rfl
          · rw [up_n (Or.inr (by omega)), g2 j j0 (by omega)]
        · rw [up_n (Or.inl (by decide)), up_n (Or.inr (by omega)), g3 j hj]
        · rw [up_n (Or.inr hj), up_n (Or.inl (by decide)), g4 j hj]
        · rw [up_c q1, up_c q2, g5 c q1 q2]
      apply h18
      rw [nk]
      refine ⟨fun q => by omega, fun _ => ⟨fun q1 => ⟨fun q2 => ⟨fun q3 => ⟨fun q4 => ?_, fun q4 => ?_⟩, fun q3 => ?_⟩, fun q2 => ?_⟩, fun q1 => ?_⟩⟩
      · rwa [show wd a b c d e k = e by unfold wd; rw [if_neg (by omega), if_neg (by omega), if_neg (by omega), if_neg (by omega)]] at go
      · rwa [show wd a b c d e k = d by unfold wd; rw [if_neg (by omega), if_neg (by omega), if_neg (by omega), if_pos (by omega)]] at go
      · rwa [show wd a b c d e k = c by unfold wd; rw [if_neg (by omega), if_neg (by omega), if_pos (by omega)]] at go
      · rwa [show wd a b c d e k = b by unfold wd; rw [if_neg (by omega), if_pos (by omega)]] at go
      · rwa [show wd a b c d e k = a by unfold wd; rw [if_pos (by omega)]] at go
  exact key 20 0 rfl s (by omega) (fun j j0 j1 => by omega) (fun j hj => rfl) (fun j hj => rfl) (fun c q1 q2 => rfl)
/-- promise 2 -/
theorem q_feed {s : mm_M} {a1 a2 a3 a4 a5 : Int} (hR : Rel s) (h1 : n32 a1 = a1) (h2 : n32 a2 = a2) (h3 : n32 a3 = a3) (h4 : n32 a4 = a4) (h5 : n32 a5 = a5) (post : Int → mm_M → Prop) (hp : ∀ r1 s1, Gd (wp_X11_feed 211 a1 a2 a3 a4 a5 s1) r1 → post r1 s1) : wp_X10_feed 0 a1 a2 a3 a4 a5 s post := by
  have hT := hR.1
  obtain ⟨t1, t2, t3, t4⟩ := hT
  have n1 : n32 (s 7 1) = s 7 1 := n32_id (by omega) (by omega)
  unfold wp_X10_feed
  rw [show mm_rt 0 0 = 7 from rfl, n1]
  refine ⟨fun q => ?_, fun q => hp _ _ ?_⟩
  · refine s_ap5 rfl t1 q (fun t g1 g2 g3 g4 => ?_)
    refine hp _ _ ?_
    intro p2 k2
    refine s_rf (n := s 7 1) (by rw [g4 211 (by decide) (by decide)]; exact t3) t1 q (fun u u1 u2 u3 u4 u5 => ?_)
    refine k2 _ _ (by rw [g1]) ?_
    refine hR.go (Or.inr ?_) ?_ (Or.inl ?_) (Or.inl ?_) (Or.inl ?_) (Or.inl ?_) ⟨by rw [u5 _ (by decide) (by decide), g4 _ (by decide) (by decide)], by rw [u5 _ (by decide) (by decide), g4 _ (by decide) (by decide)]⟩
    · have v7 : u 7 1 = s 7 1 + 20 := by rw [u5 7 (by decide) (by decide)]; exact g1
      refine ⟨by omega, by omega, by omega, fun j j0 j1 => ?_⟩
      rw [u5 8 (by decide) (by decide)]
      by_cases qj : j < s 7 1
      · rw [u3 j qj, g3 j qj, g4 212 (by decide) (by decide)]
        exact t4 j j0 qj
      · obtain ⟨i, hi⟩ : ∃ i, j = s 7 1 + i := ⟨j - s 7 1, by omega⟩
        subst hi
        rw [g2 i (by omega) (by omega), u2 i (by omega) (by omega)]
        exact fr_ok (by omega)
    · refine ⟨?_, ?_, ?_, ?_, ?_, ?_, ?_, ?_, ?_, ?_⟩ <;> first | (rw [u5 _ (by decide) (by decide), g4 _ (by decide) (by decide)]) | (rw [u4 _ (by decide), g4 _ (by decide) (by decide)])
    · refine ⟨?_, ?_, ?_, ?_, ?_, ?_, ?_, ?_⟩ <;> first | (rw [u5 _ (by decide) (by decide), g4 _ (by decide) (by decide)]) | (rw [u4 _ (by decide), g4 _ (by decide) (by decide)])
    · exact ⟨fun a h1 h2 => by rw [u5 _ (by omega) (by omega), g4 _ (by omega) (by omega)], fun a h1 h2 => by rw [u5 _ (by omega) (by omega), g4 _ (by omega) (by omega)], by rw [u4 _ (by decide), g4 _ (by decide) (by decide)], by rw [u4 _ (by decide), g4 _ (by decide) (by decide)], by rw [u4 _ (by decide), g4 _ (by decide) (by decide)]⟩
    · exact ⟨fun a h1 h2 => by rw [u5 _ (by omega) (by omega), g4 _ (by omega) (by omega)], by rw [u5 _ (by decide) (by decide), g4 _ (by decide) (by decide)], by rw [u5 _ (by decide) (by decide), g4 _ (by decide) (by decide)], by rw [u5 _ (by decide) (by decide), g4 _ (by decide) (by decide)]⟩
    · refine ⟨?_, ?_, ?_, ?_, ?_, ?_⟩ <;> first | (rw [u5 _ (by decide) (by decide), g4 _ (by decide) (by decide)]) | (rw [u4 _ (by decide), g4 _ (by decide) (by decide)])
  · intro p2 k2
    intro L18 L71 h18 h71
    rw [t3, n32_id (x := s 7 1 + 20) (by omega) (by omega)]
    exact ⟨fun q => by omega, fun _ => k2 _ _ rfl hR⟩
