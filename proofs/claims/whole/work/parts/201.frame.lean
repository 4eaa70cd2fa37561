theorem r_S.fr {s s' : mm_M} {b : Nat} {C S mn lot en : Int} {st bu ma rw pe t7 bk : Int → Int} (hC : C ≤ 3) (h : r_S s b C S mn lot st bu ma rw pe t7 en bk) (e : ∀ a : Nat, b ≤ a → a < b + 42 → s' a = s a) : r_S s' b C S mn lot st bu ma rw pe t7 en bk := by
  obtain ⟨h1, h2, h3, h4, h5, h6, h7, h8, h9, h10, h11, h12, h13, h14⟩ := h
  refine ⟨by rw [e b (by omega) (by omega)]; exact h1, by rw [e b (by omega) (by omega)]; exact h2, h3, h4, h5, h6, fun c hc => ?_, fun p hp => ?_, fun j hj hj2 => by rw [e _ (by omega) (by omega)]; exact h9 j hj hj2, h10, by rw [e _ (by omega) (by omega)]; exact h11, h12, h13, fun j hj hj2 => by rw [e _ (by omega) (by omega)]; exact h14 j hj hj2⟩
  · rw [e (b + 36 + 2 * c) (by omega) (by omega), e (b + 37 + 2 * c) (by omega) (by omega)]
    exact h7 c hc
  · rw [e (b + 6 + p) (by omega) (by omega)]
    exact h8 p hp
theorem ag.c {s s' : mm_M} (h : ag s s') {a : Nat} (ha : ∀ j, scr a j = false) : s' a = s a := funext fun j => h a j (ha j)
theorem r_J.fr {s s' : mm_M} {k : Nat} (hk : k < 3) (hC : s 9 4 ≤ 3) (h : r_J s k) (hc : s' 9 4 = s 9 4) (hs : s' 9 5 = s 9 5) (h5 : s' 235 = s 235) (h6 : s' 236 = s 236) (e : ∀ a : Nat, 72 ≤ a → a < 198 → s' a = s a) : r_J s' k := by
  unfold r_J
  rw [hc, hs, h5, h6]
  exact r_S.fr hC h (fun a h1 h2 => e a (by omega) (by omega))
theorem r_A.fr {s s' : mm_M} (hC : s 9 4 ≤ 3) (h : r_A s) (hc : s' 9 4 = s 9 4) (hs : s' 9 5 = s 9 5) (h28 : s' 211 28 = s 211 28) (h37 : s' 211 37 = s 211 37) (h35 : s' 211 35 = s 211 35) (e : ∀ a : Nat, 29 ≤ a → a < 71 → s' a = s a) (e2 : ∀ a : Nat, 225 ≤ a → a ≤ 231 → s' a = s a) : r_A s' := by
  unfold r_A
  rw [hc, hs, h28, h37, h35, e2 225 (by omega) (by omega), e2 226 (by omega) (by omega), e2 227 (by omega) (by omega), e2 228 (by omega) (by omega), e2 229 (by omega) (by omega), e2 230 (by omega) (by omega), e2 231 (by omega) (by omega)]
  exact r_S.fr hC h (fun a h1 h2 => e a (by omega) (by omega))
theorem scr_shop {a : Nat} (h : 29 ≤ a) (h2 : a < 200) : ∀ j, scr a j = false := by
  intro j
  simp only [scr, Bool.or_eq_false_iff, Bool.and_eq_false_iff, decide_eq_false_iff_not]
  refine ⟨⟨⟨⟨⟨⟨⟨⟨⟨?_, ?_⟩, ?_⟩, ?_⟩, ?_⟩, ?_⟩, ?_⟩, ?_⟩, ?_⟩, ?_⟩ <;> omega
theorem scr_ref {a : Nat} (h : 222 ≤ a) (h2 : a < 237) : ∀ j, scr a j = false := by
  intro j
  simp only [scr, Bool.or_eq_false_iff, Bool.and_eq_false_iff, decide_eq_false_iff_not]
  refine ⟨⟨⟨⟨⟨⟨⟨⟨⟨?_, ?_⟩, ?_⟩, ?_⟩, ?_⟩, ?_⟩, ?_⟩, ?_⟩, ?_⟩, ?_⟩ <;> omega
/-- what is no row of work decides the relation -/
theorem Rel.fr {s s' : mm_M} (h : Rel s) (e : ag s s') : Rel s' := by
  obtain ⟨hT, hW, hL, hA, hI, hC, h0, hz⟩ := h
  have e9 : ∀ j, s' 9 j = s 9 j := fun j => e 9 j rfl
  have e8 : s' 8 = s 8 := e.c (fun _ => rfl)
  have e10 : s' 10 = s 10 := e.c (fun _ => rfl)
  have e11 : s' 11 = s 11 := e.c (fun _ => rfl)
  have e20 : s' 20 = s 20 := e.c (fun _ => rfl)
  have e21 : s' 21 = s 21 := e.c (fun _ => rfl)
  have e22 : s' 22 = s 22 := e.c (fun _ => rfl)
  have e198 : s' 198 = s 198 := e.c (scr_shop (by omega) (by omega))
  have e199 : s' 199 = s 199 := e.c (scr_shop (by omega) (by omega))
  have e200 : s' 200 = s 200 := e.c (fun _ => rfl)
  have e201 : s' 201 = s 201 := e.c (fun _ => rfl)
  have e212 : s' 212 = s 212 := e.c (fun _ => rfl)
  have e217 : s' 217 = s 217 := e.c (fun _ => rfl)
  have e218 : s' 218 = s 218 := e.c (fun _ => rfl)
  have er : ∀ a : Nat, 222 ≤ a → a < 237 → s' a = s a := fun a h1 h2 => e.c (scr_ref h1 h2)
  have es : ∀ a : Nat, 29 ≤ a → a < 200 → s' a = s a := fun a h1 h2 => e.c (scr_shop h1 h2)
  have q1 : s' 211 1 = s 211 1 := e 211 1 rfl
  have q12 : s' 211 12 = s 211 12 := e 211 12 rfl
  have q14 : s' 211 14 = s 211 14 := e 211 14 rfl
  have q16 : s' 211 16 = s 211 16 := e 211 16 rfl
  have q17 : s' 211 17 = s 211 17 := e 211 17 rfl
  have q18 : s' 211 18 = s 211 18 := e 211 18 rfl
  have q24 : s' 211 24 = s 211 24 := e 211 24 rfl
  have q28 : s' 211 28 = s 211 28 := e 211 28 rfl
  have q35 : s' 211 35 = s 211 35 := e 211 35 rfl
  have q37 : s' 211 37 = s 211 37 := e 211 37 rfl
  have q38 : s' 211 38 = s 211 38 := e 211 38 rfl
  have p1 : s' 7 1 = s 7 1 := e 7 1 rfl
  have l4 : s' 19 4 = s 19 4 := e 19 4 rfl
  have hC3 := hW.2.1
  have e27 : s' 27 = s 27 := e.c (fun _ => rfl)
  have e221 : s' 221 = s 221 := e.c (fun _ => rfl)
  refine ⟨?_, ?_, ?_, ?_, ?_, ?_, ?_, by unfold bz; rw [e27, e221]; exact hz⟩
  · unfold r_T; rw [p1, q1, e8, e212]; exact hT
  · unfold r_W; rw [e9 4, e9 5, e9 6, e9 7, e9 8, q12, q14, q16, q17, q18, e10, e11, e217, e218]; exact hW
  · unfold r_L; rw [l4, q24, e20, e21, e22, er 222 (by omega) (by omega), er 223 (by omega) (by omega), er 224 (by omega) (by omega)]; exact hL
  · intro hq
    rw [e9 4] at hq
    exact (hA hq).fr hC3 (e9 4) (e9 5) q28 q37 q35 (fun a h1 h2 => es a h1 (by omega)) (fun a h1 h2 => er a (by omega) (by omega))
  · intro k hk
    have h := hI k hk
    rw [e198, er 234 (by omega) (by omega), e9 4]
    exact ⟨h.1, h.2.1, fun q => ⟨(h.2.2 q).1, (h.2.2 q).2.fr hk hC3 (e9 4) (e9 5) (er 235 (by omega) (by omega)) (er 236 (by omega) (by omega)) (fun a h1 h2 => es a (by omega) (by omega))⟩⟩
  · unfold r_C; rw [e199, e200, e201, q38, er 232 (by omega) (by omega), er 233 (by omega) (by omega)]; exact hC
  · intro hq
    rw [e9 4] at hq
    unfold r_0
    rw [es 29 (by omega) (by omega), es 33 (by omega) (by omega), q28, q35]
    obtain ⟨a1, a2, a3, a4, a5⟩ := h0 hq
    exact ⟨a1, a2, a3, a4, fun p hp => by rw [es (35 + p) (by omega) (by omega)]; exact a5 p hp⟩
