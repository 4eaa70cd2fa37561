/-! which parts of the relation a step leaves alone -/
def k_T (s s' : mm_M) : Prop := s' 7 1 = s 7 1 ∧ s' 211 1 = s 211 1 ∧ s' 8 = s 8 ∧ s' 212 = s 212
def k_W (s s' : mm_M) : Prop := s' 9 = s 9 ∧ s' 10 = s 10 ∧ s' 11 = s 11 ∧ s' 217 = s 217 ∧ s' 218 = s 218 ∧ s' 211 12 = s 211 12 ∧ s' 211 14 = s 211 14 ∧ s' 211 16 = s 211 16 ∧ s' 211 17 = s 211 17 ∧ s' 211 18 = s 211 18
def k_L (s s' : mm_M) : Prop := s' 19 4 = s 19 4 ∧ s' 20 = s 20 ∧ s' 21 = s 21 ∧ s' 22 = s 22 ∧ s' 222 = s 222 ∧ s' 223 = s 223 ∧ s' 224 = s 224 ∧ s' 211 24 = s 211 24
def k_A (s s' : mm_M) : Prop := (∀ a : Nat, 29 ≤ a → a < 71 → s' a = s a) ∧ (∀ a : Nat, 225 ≤ a → a ≤ 231 → s' a = s a) ∧ s' 211 28 = s 211 28 ∧ s' 211 35 = s 211 35 ∧ s' 211 37 = s 211 37
def k_I (s s' : mm_M) : Prop := (∀ a : Nat, 72 ≤ a → a < 199 → s' a = s a) ∧ s' 234 = s 234 ∧ s' 235 = s 235 ∧ s' 236 = s 236
def k_C (s s' : mm_M) : Prop := s' 199 = s 199 ∧ s' 200 = s 200 ∧ s' 201 = s 201 ∧ s' 232 = s 232 ∧ s' 233 = s 233 ∧ s' 211 38 = s 211 38
theorem Rel.go {s s' : mm_M} (hR : Rel s) (T : k_T s s' ∨ r_T s') (Wn : k_W s s') (L : k_L s s' ∨ r_L s') (A : k_A s s' ∨ (0 < s 9 4 ∧ r_A s')) (J : k_I s s' ∨ r_I s') (C : k_C s s' ∨ r_C s') (Z : s' 27 = s 27 ∧ s' 221 = s 221) : Rel s' := by
  obtain ⟨hT, hW, hL, hA, hI, hC, h0, hz⟩ := hR
  obtain ⟨w1, w2, w3, w4, w5, w6, w7, w8, w9, w10⟩ := Wn
  have hC3 := hW.2.1
  refine ⟨?_, ?_, ?_, ?_, ?_, ?_, ?_, by unfold bz; rw [Z.1, Z.2]; exact hz⟩
  · rcases T with ⟨a1, a2, a3, a4⟩ | h
    · unfold r_T; rw [a1, a2, a3, a4]; exact hT
    · exact h
  · unfold r_W; rw [w1, w2, w3, w4, w5, w6, w7, w8, w9, w10]; exact hW
  · rcases L with ⟨a1, a2, a3, a4, a5, a6, a7, a8⟩ | h
    · unfold r_L; rw [a1, a2, a3, a4, a5, a6, a7, a8]; exact hL
    · exact h
  · intro hq
    rcases A with ⟨a1, a2, a3, a4, a5⟩ | h
    · rw [w1] at hq
      exact (hA hq).fr hC3 (by rw [w1]) (by rw [w1]) a3 a5 a4 a1 a2
    · exact h.2
  · rcases J with ⟨a1, a2, a3, a4⟩ | h
    · intro k hk
      have h := hI k hk
      rw [a1 198 (by omega) (by omega), a2, w1]
      exact ⟨h.1, h.2.1, fun q => ⟨(h.2.2 q).1, (h.2.2 q).2.fr hk hC3 (by rw [w1]) (by rw [w1]) a3 a4 (fun a h1 h2 => a1 a h1 (by omega))⟩⟩
    · exact h
  · rcases C with ⟨a1, a2, a3, a4, a5, a6⟩ | h
    · unfold r_C; rw [a1, a2, a3, a4, a5, a6]; exact hC
    · exact h
  · intro hq
    rw [w1] at hq
    rcases A with ⟨a1, a2, a3, a4, a5⟩ | h
    · obtain ⟨b1, b2, b3, b4, b5⟩ := h0 hq
      exact ⟨by rw [a1 29 (by omega) (by omega)]; exact b1, by rw [a3]; exact b2, by rw [a1 33 (by omega) (by omega)]; exact b3, by rw [a4]; exact b4, fun p hp => by rw [a1 (35 + p) (by omega) (by omega)]; exact b5 p hp⟩
    · omega
/-- promise 3 -/
theorem q_end {s : mm_M} {a1 : Int} (hR : Rel s) (ha : n32 a1 = a1) (post : Int → mm_M → Prop) (hp : ∀ r1 s1, Gd (wp_X11_end 211 a1 s1) r1 → post r1 s1) : wp_X10_end 0 a1 s post := by
  have hT := hR.1
  obtain ⟨t1, t2, t3, t4⟩ := hT
  have n1 : n32 (s 7 1) = s 7 1 := n32_id (by omega) (by omega)
  unfold wp_X10_end wp_X8_shorten
  rw [ha, show mm_rt 0 0 = 7 from rfl, n1]
  have no : (a1 < 0 ∨ s 7 1 < a1) → Gd (wp_X11_end 211 a1 s) 0 := by
    intro h p2 h2
    unfold wp_X11_end
    refine s_in (fun b1 b2 => ?_) (fun _ => ⟨fun q => absurd m_0 q, fun _ => h2 _ _ rfl hR⟩)
    rw [ha, m_0] at b1
    rw [ha, t3, n1] at b2
    omega
  refine ⟨fun h1 => ⟨Or.inl rfl, hp _ _ (no (Or.inl h1))⟩, fun h1 => ⟨fun h2 s1 e1 => ⟨Or.inr rfl, hp _ _ ?_⟩, fun h2 => ⟨Or.inl rfl, hp _ _ (no (Or.inr (by omega)))⟩⟩⟩
  intro p2 h3
  unfold wp_X11_end
  have hs : s1 211 1 = s 7 1 := by rw [e1, up_c (by decide)]; exact t3
  refine s_in (fun _ _ => ⟨fun _ s2 e2 => h3 _ _ rfl ?_, fun q => absurd q (by decide)⟩) (fun h => ?_)
  · subst e1; subst e2
    refine hR.go (Or.inr ?_) ?_ (Or.inl ?_) (Or.inl ?_) (Or.inl ?_) (Or.inl ?_) ⟨by rw [up_c (by decide), up_c (by decide)], by rw [up_c (by decide), up_c (by decide)]⟩
    · refine ⟨?_, ?_, ?_, fun j j1 j2 => ?_⟩
      · rw [up_c (by decide), up_e]; omega
      · rw [up_c (by decide), up_e]; omega
      · rw [up_e, up_c (by decide), up_e]
      · rw [up_c (by decide), up_e] at j2
        rw [up_c (by decide), up_c (by decide), up_c (by decide), up_c (by decide)]
        exact t4 j j1 (by omega)
    · refine ⟨?_, ?_, ?_, ?_, ?_, ?_, ?_, ?_, ?_, ?_⟩ <;> first | (rw [up_c (by decide), up_c (by decide)]) | (rw [up_n (by decide), up_c (by decide)])
    · refine ⟨?_, ?_, ?_, ?_, ?_, ?_, ?_, ?_⟩ <;> first | (rw [up_c (by decide), up_c (by decide)]) | (rw [up_n (by decide), up_c (by decide)])
    · exact ⟨fun a h1 h2 => by rw [up_c (by omega), up_c (by omega)], fun a h1 h2 => by rw [up_c (by omega), up_c (by omega)], by rw [up_n (by decide), up_c (by decide)], by rw [up_n (by decide), up_c (by decide)], by rw [up_n (by decide), up_c (by decide)]⟩
    · exact ⟨fun a h1 h2 => by rw [up_c (by omega), up_c (by omega)], by rw [up_c (by decide), up_c (by decide)], by rw [up_c (by decide), up_c (by decide)], by rw [up_c (by decide), up_c (by decide)]⟩
    · refine ⟨?_, ?_, ?_, ?_, ?_, ?_⟩ <;> first | (rw [up_c (by decide), up_c (by decide)]) | (rw [up_n (by decide), up_c (by decide)])
  · rw [ha, m_0, hs, n1] at h
    omega
/-- promise 18 -/
theorem q_clear {s : mm_M} (hR : Rel s) (post : Int → mm_M → Prop) (hp : ∀ r1 s1, Gd (wp_X11_clear 211 s1) r1 → post r1 s1) : wp_X10_clear 0 s post := by
  obtain ⟨c1, c2, c3, c4⟩ := hR.2.2.2.2.2.1
  unfold wp_X10_clear
  rw [show mm_rt 0 8 = 199 from rfl]
  intro v1 ev s1 e1
  refine hp _ _ ?_
  intro p2 h3
  unfold wp_X11_clear
  intro v2 ev2 s2 e2
  have hs : s1 211 38 = s 199 8 := by rw [e1, up_c (by decide)]; exact c3
  refine h3 _ _ (by rw [ev, ev2, hs]) ?_
  subst e1; subst e2
  refine hR.go (Or.inl ?_) ?_ (Or.inl ?_) (Or.inl ?_) (Or.inl ?_) (Or.inr ?_) ⟨by rw [up_c (by decide), up_c (by decide)], by rw [up_c (by decide), up_c (by decide)]⟩
  · refine ⟨?_, ?_, ?_, ?_⟩ <;> first | (rw [up_c (by decide), up_c (by decide)]) | (rw [up_n (by decide), up_c (by decide)])
  · refine ⟨?_, ?_, ?_, ?_, ?_, ?_, ?_, ?_, ?_, ?_⟩ <;> first | (rw [up_c (by decide), up_c (by decide)]) | (rw [up_n (by decide), up_c (by decide)])
  · refine ⟨?_, ?_, ?_, ?_, ?_, ?_, ?_, ?_⟩ <;> first | (rw [up_c (by decide), up_c (by decide)]) | (rw [up_n (by decide), up_c (by decide)])
  · exact ⟨fun a h1 h2 => by rw [up_c (by omega), up_c (by omega)], fun a h1 h2 => by rw [up_c (by omega), up_c (by omega)], by rw [up_n (by decide), up_c (by decide)], by rw [up_n (by decide), up_c (by decide)], by rw [up_n (by decide), up_c (by decide)]⟩
  · exact ⟨fun a h1 h2 => by rw [up_c (by omega), up_c (by omega)], by rw [up_c (by decide), up_c (by decide)], by rw [up_c (by decide), up_c (by decide)], by rw [up_c (by decide), up_c (by decide)]⟩
  · have z : mm_up (mm_up s 199 8 0) 211 38 0 199 8 = 0 := by rw [up_c (by decide), up_e]
    refine ⟨by omega, by omega, by rw [z, up_e], fun k k1 k2 => ?_⟩
    rw [z] at k2
    omega
