/-! promise 29: both ways are worked out -/
def bpF (a b : Int) : Nat → Int → Int → Option Int
  | 0, _, _ => none
  | f + 1, v2, v3 => if 12 ≤ n32 v3 then some 0 else if n32 (mm_and a (mm_shl 1 v3)) = 0 then bpF a b f v2 (v3 + 1) else if n32 v2 = n32 b then some (mm_shl 1 v3) else bpF a b f (v2 + 1) (v3 + 1)
theorem s_bp {s : mm_M} {a b r : Int} {post : Int → mm_M → Prop} (f : Nat) (h : bpF a b f 0 0 = some r) (hp : post r s) : wp_X10_bitAtPlace a b s post := by
  intro L4 h4
  have key : ∀ (f : Nat) (v2 v3 : Int), bpF a b f v2 v3 = some r → L4 v2 v3 s := by
    intro f
    induction f with
    | zero => intro v2 v3 h; cases h
    | succ f ih =>
      intro v2 v3 h
      unfold bpF at h
      apply h4
      by_cases q : 12 ≤ n32 v3
      · rw [if_pos q] at h
        cases h
        exact ⟨fun _ => hp, fun z => absurd q z⟩
      · rw [if_neg q] at h
        refine ⟨fun z => absurd z q, fun _ v4 e => ?_⟩
        subst e
        by_cases q2 : n32 (mm_and a (mm_shl 1 v3)) = 0
        · rw [if_pos q2] at h
          exact ⟨fun z => absurd q2 z, fun _ v e => by subst e; exact ih _ _ h⟩
        · rw [if_neg q2] at h
          refine ⟨fun _ => ?_, fun z => absurd z q2⟩
          by_cases q3 : n32 v2 = n32 b
          · rw [if_pos q3] at h
            cases h
            exact ⟨fun z => absurd q3 z, fun _ => hp⟩
          · rw [if_neg q3] at h
            exact ⟨fun _ v e w e2 => by subst e; subst e2; exact ih _ _ h, fun z => absurd z q3⟩
  exact key f 0 0 h
def oxF (l n k : Int) : Nat → Int → Int → Int → Option Int
  | 0, _, _, _ => none
  | f + 1, v4, v5, v6 => if n32 k ≤ n32 v6 ∨ n32 n ≤ n32 v6 then some (mm_and v4 (mm_xor v5 (-1))) else match bpF v5 (pb l (n - v6)) 14 0 0 with
    | none => none
    | some r => oxF l n k f v4 (mm_and v5 (mm_xor r (-1))) (v6 + 1)
theorem s_ox {s : mm_M} {l n k r : Int} {L45 : Int → Int → Int → mm_M → Prop} {post : Int → mm_M → Prop} (hl : n32 l = l) (h45 : ∀ (v4 : Int) (v5 : Int) (v6 : Int) (s1 : mm_M), ((n32 k ≤ n32 v6 → post (mm_and v4 (mm_xor v5 (-1))) s1) ∧ (¬ n32 k ≤ n32 v6 → ((n32 n ≤ n32 v6 → post (mm_and v4 (mm_xor v5 (-1))) s1) ∧ (¬ n32 n ≤ n32 v6 → (wp_X10_placeBy l (n - v6) s1 (fun r_5 s_4 => (wp_X10_bitAtPlace v5 r_5 s_4 (fun r_7 s_6 => (∀ v5_8 : Int, v5_8 = mm_and v5 (mm_xor r_7 (-1)) → (∀ v6_9 : Int, v6_9 = v6 + 1 → L45 v4 v5_8 v6_9 s_6)))))))))) → L45 v4 v5 v6 s1) (hp : post r s) : ∀ (f : Nat) (v4 v5 v6 : Int), oxF l n k f v4 v5 v6 = some r → L45 v4 v5 v6 s := by
  intro f
  induction f with
  | zero => intro v4 v5 v6 h; cases h
  | succ f ih =>
    intro v4 v5 v6 h
    unfold oxF at h
    apply h45
    by_cases q : n32 k ≤ n32 v6 ∨ n32 n ≤ n32 v6
    · rw [if_pos q] at h
      cases h
      exact ⟨fun _ => hp, fun _ => ⟨fun _ => hp, fun z => by rcases q with q | q <;> contradiction⟩⟩
    · rw [if_neg q] at h
      refine ⟨fun z => absurd (Or.inl z) q, fun _ => ⟨fun z => absurd (Or.inr z) q, fun _ => s_pbX hl ?_⟩⟩
      cases hb : bpF v5 (pb l (n - v6)) 14 0 0 with
      | none => rw [hb] at h; cases h
      | some r0 =>
        rw [hb] at h
        exact s_bp 14 hb (fun v e w e2 => by subst e; subst e2; exact ih _ _ _ h)
def omI (v4 : Int) : Nat → Int → Int → Option Int
  | 0, _, _ => none
  | f + 1, v6, v7 => if n32 (mm_and (mm_shr v4 v7) 1) = 1 then omI v4 f v6 (v7 + 1) else if n32 v6 ≤ 0 then some (mm_or v4 (mm_shl 1 v7)) else omI v4 f (v6 - 1) (v7 + 1)
def omF (l n k : Int) : Nat → Int → Int → Option Int
  | 0, _, _ => none
  | f + 1, v4, v5 => if n32 v5 ≤ 0 ∨ n32 k ≤ n32 (n - v5) then some v4 else match omI v4 30 (pb l v5) 0 with
    | none => none
    | some r => omF l n k f r (v5 + (-1))
theorem o_all : ∀ l : Nat, l < 3 → ∀ n : Nat, n < 13 → ∀ k : Nat, k < 13 → ((oxF l n k 14 (mm_shl 1 n - 1) (mm_shl 1 n - 1) 0).isSome && (omF l n k 14 0 n).isSome && ((oxF l n k 14 (mm_shl 1 n - 1) (mm_shl 1 n - 1) 0).map n32 == (omF l n k 14 0 n).map n32)) = true := by decide +kernel
theorem q_out {s : mm_M} {a1 a2 a3 : Int} (hR : Rel s) (h1 : n32 a1 = a1) (h2 : n32 a2 = a2) (h3 : n32 a3 = a3) (post : Int → mm_M → Prop) (hp : ∀ r1 s1, Gd (wp_X11_out 211 a1 a2 a3 s1) r1 → post r1 s1) : wp_X10_out 0 a1 a2 a3 s post := by
  have k12 : n32 12 = 12 := rfl
  have no : (a1 < 0 ∨ 2 < a1 ∨ a2 < 0 ∨ 12 < a2 ∨ a3 < 0 ∨ 12 < a3) → Gd (wp_X11_out 211 a1 a2 a3 s) (-1) := by
    intro h p2 g L37 L61 L77 h37 h61 h77
    refine s_in (fun u v => ⟨fun z => absurd z (by decide), fun _ => s_in (fun u2 v2 => ⟨fun z => absurd z (by decide), fun _ => s_in (fun u3 v3 => ?_) (fun _ => ⟨fun z => absurd m_0 z, fun _ => g _ _ rfl hR⟩)⟩) (fun _ => ⟨fun _ => g _ _ rfl hR, fun z => absurd m_0 z⟩)⟩) (fun _ => ⟨fun _ => g _ _ rfl hR, fun z => absurd m_0 z⟩)
    rw [h1, m_0] at u
    rw [h1, m_2] at v
    rw [h2, m_0] at u2
    rw [h2, k12] at v2
    rw [h3, m_0] at u3
    rw [h3, k12] at v3
    omega
  intro L45 h45
  rw [h1, h2, h3]
  refine ⟨fun q => hp _ _ (no (by omega)), fun q1 => ⟨fun q => hp _ _ (no (by omega)), fun q2 => ⟨fun q => hp _ _ (no (by omega)), fun q3 => ⟨fun q => hp _ _ (no (by omega)), fun q4 => ⟨fun q => hp _ _ (no (by omega)), fun q5 => ⟨fun q6 v4 e4 v5 e5 => ?_, fun q => hp _ _ (no (by omega))⟩⟩⟩⟩⟩⟩
  subst e5; subst e4
  have ha := o_all a1.toNat (by omega) a2.toNat (by omega) a3.toNat (by omega)
  rw [show ((a1.toNat : Nat) : Int) = a1 by omega, show ((a2.toNat : Nat) : Int) = a2 by omega, show ((a3.toNat : Nat) : Int) = a3 by omega] at ha
  cases hx : oxF a1 a2 a3 14 (mm_shl 1 a2 - 1) (mm_shl 1 a2 - 1) 0 with
  | none => rw [hx] at ha; simp at ha
  | some r =>
    cases hm : omF a1 a2 a3 14 0 a2 with
    | none => rw [hm] at ha; simp at ha
    | some r2 =>
      rw [hx, hm] at ha
      have he : n32 r = n32 r2 := by simpa using ha
      refine s_ox (r := r) h1 h45 (hp _ _ ?_) 14 _ _ _ hx
      intro p2 g L37 L61 L77 h37 h61 h77
      refine s_in (fun _ _ => ⟨fun z => absurd z (by decide), fun _ => s_in (fun _ _ => ⟨fun z => absurd z (by decide), fun _ => s_in (fun _ _ => ⟨fun _ v e => ?_, fun z => absurd z (by decide)⟩) (fun z => by rw [h3, m_0, k12] at z; omega)⟩) (fun z => by rw [h2, m_0, k12] at z; omega)⟩) (fun z => by rw [h1, m_0, m_2] at z; omega)
      subst e
      have inner : ∀ (f : Nat) (v4 v5 v6 v7 r0 : Int), omI v4 f v6 v7 = some r0 → L37 r0 (v5 + (-1)) s → L61 v4 v5 v6 v7 s := by
        intro f
        induction f with
        | zero => intro v4 v5 v6 v7 r0 h; cases h
        | succ f ih =>
          intro v4 v5 v6 v7 r0 h hL
          unfold omI at h
          apply h61
          by_cases q : n32 (mm_and (mm_shr v4 v7) 1) = 1
          · rw [if_pos q] at h
            refine ⟨fun _ => h77 _ _ _ _ _ ⟨fun z => absurd q z, fun _ w e x e2 => ?_⟩, fun z => absurd q z⟩
            subst e; subst e2
            rw [show v6 - 0 = v6 by omega]
            exact ih _ _ _ _ _ h hL
          · rw [if_neg q] at h
            refine ⟨fun z => absurd z q, fun _ => ?_⟩
            by_cases qq : n32 v6 ≤ 0
            · rw [if_pos qq] at h
              cases h
              exact ⟨fun _ w e x e2 => by subst e; subst e2; exact hL, fun z => absurd qq z⟩
            · rw [if_neg qq] at h
              refine ⟨fun z => absurd z qq, fun _ => h77 _ _ _ _ _ ⟨fun _ w e x e2 => ?_, fun z => absurd z q⟩⟩
              subst e; subst e2
              exact ih _ _ _ _ _ h hL
      have outer : ∀ (f : Nat) (v4 v5 : Int), omF a1 v a3 f v4 v5 = some r2 → L37 v4 v5 s := by
        intro f
        induction f with
        | zero => intro v4 v5 h; cases h
        | succ f ih =>
          intro v4 v5 h
          unfold omF at h
          apply h37
          by_cases q : n32 v5 ≤ 0 ∨ n32 a3 ≤ n32 (v - v5)
          · rw [if_pos q] at h
            cases h
            exact ⟨fun _ => g _ _ he hR, fun _ => ⟨fun _ => g _ _ he hR, fun z => by rcases q with q | q <;> contradiction⟩⟩
          · rw [if_neg q] at h
            refine ⟨fun z => absurd (Or.inl z) q, fun _ => ⟨fun z => absurd (Or.inr z) q, fun _ => s_pbM h1 (fun w e => ?_)⟩⟩
            subst e
            cases hb : omI v4 30 (pb a1 v5) 0 with
            | none => rw [hb] at h; cases h
            | some r0 =>
              rw [hb] at h
              exact inner 30 _ _ _ _ _ hb (ih _ _ h)
      exact outer 14 0 v hm
