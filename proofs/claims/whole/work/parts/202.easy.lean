theorem mm_kd_p : ∀ p, p < 30 → mm_kd (35 + p) = 15 := by decide +kernel
/-- the start -/
theorem Rel_0 : Rel mm_s0 := by
  refine ⟨?_, ?_, ?_, ?_, ?_, ?_, ?_, ?_⟩
  · refine ⟨by decide +kernel, by decide +kernel, by decide +kernel, fun j h1 h2 => ?_⟩
    have : mm_s0 7 1 = 0 := by decide +kernel
    omega
  · have h4 : mm_s0 9 4 = 0 := by decide +kernel
    have h5 : mm_s0 9 5 = 0 := by decide +kernel
    refine ⟨by decide +kernel, by decide +kernel, by decide +kernel, by decide +kernel, by decide +kernel, by decide +kernel, by decide +kernel, by decide +kernel, by decide +kernel, by decide +kernel, by decide +kernel, by decide +kernel, by decide +kernel, by decide +kernel, by decide +kernel, ?_, ?_, ?_, ?_⟩
    · intro j a b; omega
    · intro j a b; omega
    · intro j a b; omega
    · intro j a b; omega
  · have h4 : mm_s0 19 4 = 0 := by decide +kernel
    refine ⟨by decide +kernel, by decide +kernel, by decide +kernel, fun h => by omega, fun i a b => by omega⟩
  · have h4 : mm_s0 9 4 = 0 := by decide +kernel
    intro h
    omega
  · intro k hk
    have h : ∀ k : Nat, k < 3 → mm_s0 198 k = 0 ∧ mm_s0 234 k = 0 := by decide +kernel
    obtain ⟨a, b⟩ := h k hk
    exact ⟨Or.inl a, by rw [a, b], fun q => by rw [a] at q; omega⟩
  · have h4 : mm_s0 199 8 = 0 := by decide +kernel
    refine ⟨by decide +kernel, by decide +kernel, by decide +kernel, fun i a b => by omega⟩
  · intro _
    refine ⟨by decide +kernel, by decide +kernel, by decide +kernel, by decide +kernel, fun p hp => ?_⟩
    unfold mm_s0
    rw [if_pos (mm_kd_p p hp), if_pos rfl]
  · have h : ∀ k : Nat, k < 5 → mm_s0 27 k = 0 ∧ mm_s0 221 k = 0 := by decide +kernel
    intro i i1 i2
    have := h i.toNat (by omega)
    rw [show ((i.toNat : Nat) : Int) = i by omega] at this
    exact ⟨Or.inl this.1, Or.inl this.2⟩
theorem s_in {a1 a2 a3 : Int} {s : mm_M} {post : Int → mm_M → Prop} (h1 : n32 a2 ≤ n32 a1 → n32 a1 ≤ n32 a3 → post 1 s) (h0 : n32 a1 < n32 a2 ∨ n32 a3 < n32 a1 → post 0 s) : wp_X11_in a1 a2 a3 s post :=
  ⟨fun h => h0 (Or.inl h), fun h => ⟨fun h2 => h0 (Or.inr h2), fun h2 => h1 (by omega) (by omega)⟩⟩
theorem m_0 : n32 0 = 0 := rfl
theorem m_1 : n32 1 = 1 := rfl
/-- the lots' number alone changes -/
theorem r_S.lot {s s' : mm_M} {b : Nat} {C S mn lot en lot' : Int} {st bu ma rw pe t7 bk : Int → Int} (hC : C ≤ 3) (h : r_S s b C S mn lot st bu ma rw pe t7 en bk) (h7 : s' b 7 = s b 7) (h8 : s' b 8 = lot') (hl : 0 ≤ lot' ∧ lot' < 2147483648) (e : ∀ a : Nat, b < a → a < b + 42 → s' a = s a) : r_S s' b C S mn lot' st bu ma rw pe t7 en bk := by
  obtain ⟨h1, h2, h3, h4, h5, h6, hD, hP, h9, h10, h11, h12, h13, h14⟩ := h
  refine ⟨by rw [h7]; exact h1, h8, h3, h4, hl.1, hl.2, fun c hc => ?_, fun p hp => ?_, fun j hj hj2 => by rw [e _ (by omega) (by omega)]; exact h9 j hj hj2, h10, by rw [e _ (by omega) (by omega)]; exact h11, h12, h13, fun j hj hj2 => by rw [e _ (by omega) (by omega)]; exact h14 j hj hj2⟩
  · rw [e (b + 36 + 2 * c) (by omega) (by omega), e (b + 37 + 2 * c) (by omega) (by omega)]
    exact hD c hc
  · rw [e (b + 6 + p) (by omega) (by omega)]
    exact hP p hp
theorem up_c {s : mm_M} {a b : Nat} {j v : Int} (h : b ≠ a) : mm_up s a j v b = s b := funext fun _ => up_n (Or.inl h)
/-- promise 9 -/
theorem q_seed {s : mm_M} {a1 : Int} (hR : Rel s) (ha : n32 a1 = a1) (post : Int → mm_M → Prop) (hp : ∀ r1 s1, Gd (wp_X11_seed 211 a1 s1) r1 → post r1 s1) : wp_X10_seed 0 a1 s post := by
  unfold wp_X10_seed
  rw [ha, show mm_rt 0 5 = 29 from rfl]
  have k1 : n32 1000000 = 1000000 := by decide
  have no : ∀ s, Rel s → (a1 < 0 ∨ 1000000 < a1) → Gd (wp_X11_seed 211 a1 s) 0 := by
    intro s hR h p2 h2
    unfold wp_X11_seed
    refine s_in (fun b1 b2 => ?_) (fun _ => ⟨fun q => absurd m_0 q, fun _ => h2 _ _ rfl hR⟩)
    rw [ha, m_0] at b1
    rw [ha, k1] at b2
    omega
  refine ⟨fun h1 => hp _ _ (no s hR (Or.inl h1)), fun h1 => ⟨fun h2 s1 e1 => hp _ _ ?_, fun h2 => hp _ _ (no s hR (Or.inr (by omega)))⟩⟩
  intro p2 h3
  unfold wp_X11_seed
  refine s_in (fun _ _ => ⟨fun _ s2 e2 => h3 _ _ rfl ?_, fun q => absurd q (by decide)⟩) (fun h => ?_)
  · subst e1; subst e2
    rw [ha]
    obtain ⟨hT, hW, hL, hA, hI, hC, h0, hz⟩ := hR
    have e : ∀ a : Nat, a ≠ 29 → a ≠ 211 → mm_up (mm_up s 29 8 a1) 211 37 a1 a = s a := fun a h1 h2 => by rw [up_c h2, up_c h1]
    have f : ∀ j : Int, j ≠ 37 → mm_up (mm_up s 29 8 a1) 211 37 a1 211 j = s 211 j := fun j h => by rw [up_n (Or.inr h), up_c (by decide)]
    have g : ∀ j : Int, j ≠ 8 → mm_up (mm_up s 29 8 a1) 211 37 a1 29 j = s 29 j := fun j h => by rw [up_c (by decide), up_n (Or.inr h)]
    have g8 : mm_up (mm_up s 29 8 a1) 211 37 a1 29 8 = a1 := by rw [up_c (by decide), up_e]
    have f37 : mm_up (mm_up s 29 8 a1) 211 37 a1 211 37 = a1 := up_e
    generalize mm_up (mm_up s 29 8 a1) 211 37 a1 = s' at e f g g8 f37 ⊢
    have hC3 := hW.2.1
    refine ⟨?_, ?_, ?_, ?_, ?_, ?_, ?_, by unfold bz; rw [e 27 (by decide) (by decide), e 221 (by decide) (by decide)]; exact hz⟩
    · unfold r_T; rw [e 7 (by decide) (by decide), e 8 (by decide) (by decide), e 212 (by decide) (by decide), f 1 (by decide)]; exact hT
    · unfold r_W; rw [e 9 (by decide) (by decide), e 10 (by decide) (by decide), e 11 (by decide) (by decide), e 217 (by decide) (by decide), e 218 (by decide) (by decide), f 12 (by decide), f 14 (by decide), f 16 (by decide), f 17 (by decide), f 18 (by decide)]; exact hW
    · unfold r_L; rw [e 19 (by decide) (by decide), e 20 (by decide) (by decide), e 21 (by decide) (by decide), e 22 (by decide) (by decide), e 222 (by decide) (by decide), e 223 (by decide) (by decide), e 224 (by decide) (by decide), f 24 (by decide)]; exact hL
    · intro hq
      rw [e 9 (by decide) (by decide)] at hq
      have h := hA hq
      unfold r_A at h ⊢
      rw [e 9 (by decide) (by decide), f 28 (by decide), f 35 (by decide), f37, e 225 (by decide) (by decide), e 226 (by decide) (by decide), e 227 (by decide) (by decide), e 228 (by decide) (by decide), e 229 (by decide) (by decide), e 230 (by decide) (by decide), e 231 (by decide) (by decide)]
      exact r_S.lot hC3 h (g 7 (by decide)) g8 (by omega) (fun a h1 h2 => e a (by omega) (by omega))
    · intro k hk
      have h := hI k hk
      rw [e 198 (by decide) (by decide), e 234 (by decide) (by decide), e 9 (by decide) (by decide)]
      exact ⟨h.1, h.2.1, fun q => ⟨(h.2.2 q).1, (h.2.2 q).2.fr hk hC3 (by rw [e 9 (by decide) (by decide)]) (by rw [e 9 (by decide) (by decide)]) (e 235 (by decide) (by decide)) (e 236 (by decide) (by decide)) (fun a h1 h2 => e a (by omega) (by omega))⟩⟩
    · unfold r_C; rw [e 199 (by decide) (by decide), e 200 (by decide) (by decide), e 201 (by decide) (by decide), e 232 (by decide) (by decide), e 233 (by decide) (by decide), f 38 (by decide)]; exact hC
    · intro hq
      rw [e 9 (by decide) (by decide)] at hq
      obtain ⟨a1, a2, a3, a4, a5⟩ := h0 hq
      exact ⟨by rw [g 7 (by decide)]; exact a1, by rw [f 28 (by decide)]; exact a2, by rw [e 33 (by decide) (by decide)]; exact a3, by rw [f 35 (by decide)]; exact a4, fun p hp => by rw [e (35 + p) (by omega) (by omega)]; exact a5 p hp⟩
  · rw [ha, m_0, k1] at h
    omega
