theorem lay2 : ∀ (sx : Int → Int) (L : Nat), L ≤ 3072 → (∀ j, -2147483648 ≤ sx j ∧ sx j ≤ 2147483647) → wp_law sx L mm_s0 := sorry
