/-! LAYER 2: the class's cells against the reference's -/
theorem up_e {s : mm_M} {a : Nat} {j v : Int} : mm_up s a j v a j = v := by unfold mm_up; rw [if_pos ⟨rfl, rfl⟩]
theorem up_n {s : mm_M} {a b : Nat} {j k v : Int} (h : b ≠ a ∨ k ≠ j) : mm_up s a j v b k = s b k := by
  unfold mm_up
  rw [if_neg (fun q => by rcases h with h | h; exact h q.1; exact h q.2)]
/-- what no answer depends on: rows of work -/
def scr (a : Nat) (j : Int) : Bool :=
  decide (1 ≤ a ∧ a ≤ 6) || (decide (a = 7) && decide (2 ≤ j)) || decide (12 ≤ a ∧ a ≤ 18) || (decide (a = 19) && decide (j = 6)) || decide (23 ≤ a ∧ a ≤ 28 ∧ a ≠ 27) || decide (202 ≤ a ∧ a ≤ 210) ||
  (decide (a = 211) && (decide (2 ≤ j ∧ j ≤ 6) || decide (j = 8) || decide (j = 19) || decide (j = 20) || decide (j = 44) || decide (j = 46) || decide (j = 51) || decide (j = 54) || decide (j = 55) || decide (59 ≤ j ∧ j ≤ 64))) ||
  decide (213 ≤ a ∧ a ≤ 216) || decide (219 ≤ a ∧ a ≤ 220) || decide (237 ≤ a ∧ a ≤ 246)
def ag (s s' : mm_M) : Prop := ∀ a j, scr a j = false → s' a j = s a j
theorem ag.rf {s : mm_M} : ag s s := fun _ _ _ => rfl
theorem ag.tr {s s' s'' : mm_M} (h : ag s s') (h2 : ag s' s'') : ag s s'' := fun a j q => (h2 a j q).trans (h a j q)
theorem ag.up {s s' : mm_M} {a : Nat} {j v : Int} (h : ag s s') (hs : scr a j = true) : ag s (mm_up s' a j v) := fun b k q => by
  rw [up_n]
  · exact h b k q
  · by_cases hb : b = a
    · right
      intro hk
      rw [hb, hk, hs] at q
      cases q
    · exact Or.inl hb
/-- the text -/
def r_T (s : mm_M) : Prop := 0 ≤ s 7 1 ∧ s 7 1 ≤ 500 ∧ s 211 1 = s 7 1 ∧ ∀ j : Int, 0 ≤ j → j < s 7 1 → 0 ≤ s 8 j ∧ s 8 j ≤ 255 ∧ (s 212 j = s 8 j ∧ s 8 j ≤ 127 ∨ s 212 j = s 8 j - 256 ∧ 128 ≤ s 8 j)
/-- the town -/
def r_W (s : mm_M) : Prop := 0 ≤ s 9 4 ∧ s 9 4 ≤ 3 ∧ 0 ≤ s 9 5 ∧ s 9 5 ≤ 5 ∧ s 211 12 = s 9 4 ∧ s 211 14 = s 9 5 ∧ (s 9 4 = 0 ↔ s 9 5 = 0) ∧
  -1 ≤ s 9 7 ∧ s 9 7 ≤ 99 ∧ s 211 17 = (if s 9 7 < 0 then 0 else s 9 7) ∧ -1 ≤ s 9 8 ∧ s 9 8 ≤ 9 ∧ s 211 18 = (if s 9 8 < 0 then 0 else s 9 8) ∧
  (s 9 6 = -1 ∨ 10 ≤ s 9 6 ∧ s 9 6 ≤ 240) ∧ s 211 16 = (if s 9 4 = 0 then 0 else if s 9 6 = -1 then 120 else s 9 6) ∧
  (∀ j : Int, 0 ≤ j → j < 3 * s 9 4 → s 217 j = s 10 j) ∧ (∀ c : Int, 0 ≤ c → c < s 9 4 → 0 ≤ s 10 (3 * c) ∧ s 10 (3 * c) ≤ 8 ∧ 1 ≤ s 10 (3 * c + 1) ∧ s 10 (3 * c + 1) ≤ 9 ∧ 0 ≤ s 10 (3 * c + 2) ∧ s 10 (3 * c + 2) ≤ 99) ∧
  (∀ j : Int, 0 ≤ j → j < 6 * s 9 5 → s 218 j = s 11 j) ∧ (∀ c : Int, 0 ≤ c → c < s 9 5 → 0 ≤ s 11 (6 * c) ∧ s 11 (6 * c) ≤ 16 ∧ 0 ≤ s 11 (6 * c + 1) ∧ s 11 (6 * c + 1) ≤ 99 ∧ 1 ≤ s 11 (6 * c + 2) ∧ s 11 (6 * c + 2) ≤ 240 ∧ 0 ≤ s 11 (6 * c + 3) ∧ s 11 (6 * c + 3) ≤ 9 ∧ 0 ≤ s 11 (6 * c + 4) ∧ s 11 (6 * c + 4) ≤ 9 ∧ 0 ≤ s 11 (6 * c + 5) ∧ s 11 (6 * c + 5) ≤ 2)
/-- one code of a told law: the class's number x against the reference's pair -/
def r_c (x w n : Int) : Prop := (w = 0 ∧ n = x ∧ 0 ≤ x ∧ x ≤ 9999) ∨ (w = 1 ∧ x = 10000 + n ∧ 0 ≤ n ∧ n ≤ 9) ∨ (w = 2 ∧ x = 20043) ∨ (w = 3 ∧ x = 20045) ∨ (w = 4 ∧ x = 20042) ∨ (w = 5 ∧ x = 20060) ∨ (w = 6 ∧ x = 20061)
/-- the codes from a to b work on an empty stack, leave one number, and never hold more than 40 -/
def r_d (w : Int → Int) (a b : Int) : Prop := ∃ d : Int → Int, d a = 0 ∧ d b = 1 ∧ ∀ k, a ≤ k → k < b → 0 ≤ d k ∧ (w k < 2 → d k < 40 ∧ d (k + 1) = d k + 1) ∧ (2 ≤ w k → 2 ≤ d k ∧ d (k + 1) = d k - 1)
/-- the told laws -/
def r_L (s : mm_M) : Prop := 0 ≤ s 19 4 ∧ s 19 4 ≤ 5 ∧ s 211 24 = s 19 4 ∧ (0 < s 19 4 → s 223 0 = 0) ∧
  ∀ i : Int, 0 ≤ i → i < s 19 4 → s 223 (i + 1) = s 21 i ∧ s 223 i ≤ s 223 (i + 1) ∧ 0 ≤ s 223 i ∧ s 223 (i + 1) ≤ 500 ∧ (s 22 i = 0 ∨ s 22 i = 1) ∧ s 224 i = s 22 i ∧
    (∀ k : Int, s 223 i ≤ k → k < s 223 (i + 1) → r_c (s 20 k) (s 222 (2 * k)) (s 222 (2 * k + 1))) ∧ r_d (fun k => s 222 (2 * k)) (s 223 i) (s 223 (i + 1))
/-- a shop: the class's cells from b on, the reference's rows as functions (C counters, S sorts) -/
def r_S (s : mm_M) (b : Nat) (C S mn lot : Int) (st bu ma rw pe t7 : Int → Int) (en : Int) (bk : Int → Int) : Prop :=
  s b 7 = mn ∧ s b 8 = lot ∧ 0 ≤ mn ∧ mn ≤ 240 ∧ 0 ≤ lot ∧ lot < 2147483648 ∧
  (∀ c : Nat, (c : Int) < C → s (b + 36 + 2 * c) 1 = ma c ∧ 0 ≤ ma c ∧ ma c ≤ 30 ∧ s (b + 36 + 2 * c) 2 = st c ∧ s (b + 36 + 2 * c) 3 = bu c ∧ 0 ≤ st c ∧ st c ≤ 99 ∧ 0 ≤ bu c ∧ bu c ≤ 249 ∧
    ∀ k : Int, 0 ≤ k → k < ma c → s (b + 37 + 2 * c) k = rw (30 * c + k) ∧ 0 ≤ rw (30 * c + k) ∧ rw (30 * c + k) < 30 ∧ pe (7 * rw (30 * c + k) + 2) = 0 ∧ pe (7 * rw (30 * c + k) + 1) = c ∧ ∀ k2 : Int, 0 ≤ k2 → k2 < ma c → rw (30 * c + k) = rw (30 * c + k2) → k = k2) ∧
  (∀ p : Nat, p < 30 → s (b + 6 + p) 0 = pe (7 * p + 2) ∧ -1 ≤ pe (7 * p + 2) ∧ pe (7 * p + 2) ≤ 2 ∧ (pe (7 * p + 2) = 0 → ∃ k : Int, 0 ≤ k ∧ k < ma (pe (7 * p + 1)) ∧ rw (30 * pe (7 * p + 1) + k) = p) ∧
    (pe (7 * p + 2) ≠ -1 → s (b + 6 + p) 1 = pe (7 * p) ∧ 0 ≤ pe (7 * p) ∧ pe (7 * p) < S ∧ s (b + 6 + p) 2 = pe (7 * p + 1) ∧ 0 ≤ pe (7 * p + 1) ∧ pe (7 * p + 1) < C ∧ s (b + 6 + p) 3 = pe (7 * p + 3) ∧ 0 ≤ pe (7 * p + 3) ∧ pe (7 * p + 3) ≤ mn ∧ s (b + 6 + p) 4 = pe (7 * p + 4) ∧ -1 ≤ pe (7 * p + 4) ∧ pe (7 * p + 4) ≤ mn ∧ s (b + 6 + p) 5 = pe (7 * p + 5) ∧ 0 ≤ pe (7 * p + 5) ∧ s (b + 6 + p) 6 = pe (7 * p + 6) ∧ -1 ≤ pe (7 * p + 6) ∧ pe (7 * p + 6) ≤ 249)) ∧
  (∀ j : Int, 0 ≤ j → j < 7 * S → s (b + 3) j = t7 j) ∧ (∀ c : Int, 0 ≤ c → c < S → 0 ≤ t7 (7 * c + 5) ∧ t7 (7 * c + 5) ≤ 240) ∧
  s (b + 4) 1 = en ∧ 0 ≤ en ∧ en ≤ 20 ∧ (∀ j : Int, 0 ≤ j → j < 5 * en → s (b + 5) j = bk j)
/-- the shop that goes on -/
def r_A (s : mm_M) : Prop := r_S s 29 (s 9 4) (s 9 5) (s 211 28) (s 211 37) (s 225) (s 226) (s 227) (s 228) (s 229) (s 230) (s 211 35) (s 231)
/-- image k -/
def r_J (s : mm_M) (k : Nat) : Prop := r_S s (72 + 42 * k) (s 9 4) (s 9 5) (s 235 (446 * k)) (s 236 k) (fun c => s 235 (446 * k + 1 + 3 * c)) (fun c => s 235 (446 * k + 2 + 3 * c)) (fun c => s 235 (446 * k + 3 + 3 * c)) (fun j => s 235 (446 * k + 10 + j)) (fun j => s 235 (446 * k + 100 + j)) (fun j => s 235 (446 * k + 310 + j)) (s 235 (446 * k + 345)) (fun j => s 235 (446 * k + 346 + j))
def r_I (s : mm_M) : Prop := ∀ k : Nat, k < 3 → (s 198 k = 0 ∨ s 198 k = 1) ∧ s 234 k = s 198 k ∧ (s 198 k = 1 → 0 < s 9 4 ∧ r_J s k)
/-- the row of comers -/
def r_C (s : mm_M) : Prop := 0 ≤ s 199 8 ∧ s 199 8 ≤ 8 ∧ s 211 38 = s 199 8 ∧ ∀ k : Int, 0 ≤ k → k < s 199 8 → s 232 k = s 200 k ∧ s 233 k = s 201 k ∧ 0 ≤ s 200 k ∧ s 200 k ≤ 200 ∧ 1 ≤ s 201 k ∧ s 201 k ≤ 20 ∧ (k + 1 < s 199 8 → s 200 k ≤ s 200 (k + 1))
/-- no town yet: nobody is there, no minute has passed -/
def r_0 (s : mm_M) : Prop := s 29 7 = 0 ∧ s 211 28 = 0 ∧ s 33 1 = 0 ∧ s 211 35 = 0 ∧ ∀ p : Nat, p < 30 → s (35 + p) 0 = -1
/-- what is read of laws holds noughts and ones where it says most or least -/
def bz (s : mm_M) : Prop := ∀ i : Int, 0 ≤ i → i < 5 → (s 27 i = 0 ∨ s 27 i = 1) ∧ (s 221 i = 0 ∨ s 221 i = 1)
def Rel (s : mm_M) : Prop := r_T s ∧ r_W s ∧ r_L s ∧ (0 < s 9 4 → r_A s) ∧ r_I s ∧ r_C s ∧ (s 9 4 = 0 → r_0 s) ∧ bz s
/-- the reference's call W answers as the class's r1, and the relation stands behind it -/
def Gd (W : (Int → mm_M → Prop) → Prop) (r1 : Int) : Prop := ∀ post : Int → mm_M → Prop, (∀ r2 s2, n32 r1 = n32 r2 → Rel s2 → post r2 s2) → W post
theorem n32_n {x : Int} : n32 (n32 x) = n32 x := n32_id (by have := n32_ge x; omega) (by have := n32_lt x; omega)
