set_option maxRecDepth 100000 in
set_option maxHeartbeats 4000000 in
theorem lay2 : ∀ (sx : Int → Int) (L : Nat), L ≤ 3072 → (∀ j, -2147483648 ≤ sx j ∧ sx j ≤ 2147483647) → wp_law sx L mm_s0 := by
  intro sx L hL hr L18 h18
  have hr2 : ∀ j, n32 (sx j) = sx j := fun j => n32_id (hr j).1 (hr j).2
  have key : ∀ (n : Nat) (v3 : Int) (s1 : mm_M), Rel s1 → 0 ≤ v3 → v3 ≤ L → (L : Int) - v3 < n → L18 v3 s1 := by
    intro n
    induction n with
    | zero => intro v3 s1 hR h0 h1 hn; omega
    | succ n ih =>
      intro v3 s1 hR h0 h1 hn
      apply h18
      have e1 : n32 ((L : Int) - 6) = (L : Int) - 6 := n32_id (by omega) (by omega)
      have e2 : n32 v3 = v3 := n32_id (by omega) (by omega)
      rw [e1, e2]
      refine ⟨fun _ => trivial, fun h => ⟨⟨h0, by omega⟩, ?_⟩⟩
      refine ⟨fun _ => ⟨⟨by omega, by omega⟩, ⟨by omega, by omega⟩, ⟨by omega, by omega⟩, ⟨by omega, by omega⟩, ⟨by omega, by omega⟩, q_feed hR (hr2 _) (hr2 _) (hr2 _) (hr2 _) (hr2 _) _ (fun r1 s2 hg => ⟨⟨by omega, by omega⟩, ⟨by omega, by omega⟩, ⟨by omega, by omega⟩, ⟨by omega, by omega⟩, ⟨by omega, by omega⟩, hg _ (fun r2 s3 he hR2 => ⟨fun _ v hv => ih v s3 hR2 (by omega) (by omega) (by omega), fun q => absurd he q⟩)⟩)⟩, fun _ => ?_⟩
      refine ⟨fun _ => ⟨⟨by omega, by omega⟩, q_end hR (hr2 _) _ (fun r1 s2 hg => ⟨⟨by omega, by omega⟩, hg _ (fun r2 s3 he hR2 => ⟨fun _ v hv => ih v s3 hR2 (by omega) (by omega) (by omega), fun q => absurd he q⟩)⟩)⟩, fun _ => ?_⟩
      refine ⟨fun _ => ⟨⟨by omega, by omega⟩, q_fault hR (hr2 _) _ (fun r1 s2 hg => ⟨⟨by omega, by omega⟩, hg _ (fun r2 s3 he hR2 => ⟨fun _ v hv => ih v s3 hR2 (by omega) (by omega) (by omega), fun q => absurd he q⟩)⟩)⟩, fun _ => ?_⟩
      refine ⟨fun _ => q_town hR  _ (fun r1 s2 hg => hg _ (fun r2 s3 he hR2 => ⟨fun _ v hv => ih v s3 hR2 (by omega) (by omega) (by omega), fun q => absurd he q⟩)), fun _ => ?_⟩
      refine ⟨fun _ => q_laws hR  _ (fun r1 s2 hg => hg _ (fun r2 s3 he hR2 => ⟨fun _ v hv => ih v s3 hR2 (by omega) (by omega) (by omega), fun q => absurd he q⟩)), fun _ => ?_⟩
      refine ⟨fun _ => ⟨⟨by omega, by omega⟩, ⟨by omega, by omega⟩, q_counter hR (hr2 _) (hr2 _) _ (fun r1 s2 hg => ⟨⟨by omega, by omega⟩, ⟨by omega, by omega⟩, hg _ (fun r2 s3 he hR2 => ⟨fun _ v hv => ih v s3 hR2 (by omega) (by omega) (by omega), fun q => absurd he q⟩)⟩)⟩, fun _ => ?_⟩
      refine ⟨fun _ => ⟨⟨by omega, by omega⟩, ⟨by omega, by omega⟩, q_sort hR (hr2 _) (hr2 _) _ (fun r1 s2 hg => ⟨⟨by omega, by omega⟩, ⟨by omega, by omega⟩, hg _ (fun r2 s3 he hR2 => ⟨fun _ v hv => ih v s3 hR2 (by omega) (by omega) (by omega), fun q => absurd he q⟩)⟩)⟩, fun _ => ?_⟩
      refine ⟨fun _ => ⟨⟨by omega, by omega⟩, q_seed hR (hr2 _) _ (fun r1 s2 hg => ⟨⟨by omega, by omega⟩, hg _ (fun r2 s3 he hR2 => ⟨fun _ v hv => ih v s3 hR2 (by omega) (by omega) (by omega), fun q => absurd he q⟩)⟩)⟩, fun _ => ?_⟩
      refine ⟨fun _ => ⟨⟨by omega, by omega⟩, ⟨by omega, by omega⟩, q_come hR (hr2 _) (hr2 _) _ (fun r1 s2 hg => ⟨⟨by omega, by omega⟩, ⟨by omega, by omega⟩, hg _ (fun r2 s3 he hR2 => ⟨fun _ v hv => ih v s3 hR2 (by omega) (by omega) (by omega), fun q => absurd he q⟩)⟩)⟩, fun _ => ?_⟩
      refine ⟨fun _ => ⟨⟨by omega, by omega⟩, q_turn hR (hr2 _) _ (fun r1 s2 hg => ⟨⟨by omega, by omega⟩, hg _ (fun r2 s3 he hR2 => ⟨fun _ v hv => ih v s3 hR2 (by omega) (by omega) (by omega), fun q => absurd he q⟩)⟩)⟩, fun _ => ?_⟩
      refine ⟨fun _ => ⟨⟨by omega, by omega⟩, q_leave hR (hr2 _) _ (fun r1 s2 hg => ⟨⟨by omega, by omega⟩, hg _ (fun r2 s3 he hR2 => ⟨fun _ v hv => ih v s3 hR2 (by omega) (by omega) (by omega), fun q => absurd he q⟩)⟩)⟩, fun _ => ?_⟩
      refine ⟨fun _ => ⟨⟨by omega, by omega⟩, ⟨by omega, by omega⟩, q_person hR (hr2 _) (hr2 _) _ (fun r1 s2 hg => ⟨⟨by omega, by omega⟩, ⟨by omega, by omega⟩, hg _ (fun r2 s3 he hR2 => ⟨fun _ v hv => ih v s3 hR2 (by omega) (by omega) (by omega), fun q => absurd he q⟩)⟩)⟩, fun _ => ?_⟩
      refine ⟨fun _ => ⟨⟨by omega, by omega⟩, ⟨by omega, by omega⟩, q_next hR (hr2 _) (hr2 _) _ (fun r1 s2 hg => ⟨⟨by omega, by omega⟩, ⟨by omega, by omega⟩, hg _ (fun r2 s3 he hR2 => ⟨fun _ v hv => ih v s3 hR2 (by omega) (by omega) (by omega), fun q => absurd he q⟩)⟩)⟩, fun _ => ?_⟩
      refine ⟨fun _ => ⟨⟨by omega, by omega⟩, ⟨by omega, by omega⟩, q_inside hR (hr2 _) (hr2 _) _ (fun r1 s2 hg => ⟨⟨by omega, by omega⟩, ⟨by omega, by omega⟩, hg _ (fun r2 s3 he hR2 => ⟨fun _ v hv => ih v s3 hR2 (by omega) (by omega) (by omega), fun q => absurd he q⟩)⟩)⟩, fun _ => ?_⟩
      refine ⟨fun _ => ⟨⟨by omega, by omega⟩, q_go hR (hr2 _) _ (fun r1 s2 hg => ⟨⟨by omega, by omega⟩, hg _ (fun r2 s3 he hR2 => ⟨fun _ v hv => ih v s3 hR2 (by omega) (by omega) (by omega), fun q => absurd he q⟩)⟩)⟩, fun _ => ?_⟩
      refine ⟨fun _ => ⟨⟨by omega, by omega⟩, ⟨by omega, by omega⟩, q_comer hR (hr2 _) (hr2 _) _ (fun r1 s2 hg => ⟨⟨by omega, by omega⟩, ⟨by omega, by omega⟩, hg _ (fun r2 s3 he hR2 => ⟨fun _ v hv => ih v s3 hR2 (by omega) (by omega) (by omega), fun q => absurd he q⟩)⟩)⟩, fun _ => ?_⟩
      refine ⟨fun _ => q_clear hR  _ (fun r1 s2 hg => hg _ (fun r2 s3 he hR2 => ⟨fun _ v hv => ih v s3 hR2 (by omega) (by omega) (by omega), fun q => absurd he q⟩)), fun _ => ?_⟩
      refine ⟨fun _ => ⟨⟨by omega, by omega⟩, ⟨by omega, by omega⟩, ⟨by omega, by omega⟩, q_waits hR (hr2 _) (hr2 _) (hr2 _) _ (fun r1 s2 hg => ⟨⟨by omega, by omega⟩, ⟨by omega, by omega⟩, ⟨by omega, by omega⟩, hg _ (fun r2 s3 he hR2 => ⟨fun _ v hv => ih v s3 hR2 (by omega) (by omega) (by omega), fun q => absurd he q⟩)⟩)⟩, fun _ => ?_⟩
      refine ⟨fun _ => q_lot hR  _ (fun r1 s2 hg => hg _ (fun r2 s3 he hR2 => ⟨fun _ v hv => ih v s3 hR2 (by omega) (by omega) (by omega), fun q => absurd he q⟩)), fun _ => ?_⟩
      refine ⟨fun _ => q_best hR  _ (fun r1 s2 hg => hg _ (fun r2 s3 he hR2 => ⟨fun _ v hv => ih v s3 hR2 (by omega) (by omega) (by omega), fun q => absurd he q⟩)), fun _ => ?_⟩
      refine ⟨fun _ => ⟨⟨by omega, by omega⟩, ⟨by omega, by omega⟩, q_book hR (hr2 _) (hr2 _) _ (fun r1 s2 hg => ⟨⟨by omega, by omega⟩, ⟨by omega, by omega⟩, hg _ (fun r2 s3 he hR2 => ⟨fun _ v hv => ih v s3 hR2 (by omega) (by omega) (by omega), fun q => absurd he q⟩)⟩)⟩, fun _ => ?_⟩
      refine ⟨fun _ => ⟨⟨by omega, by omega⟩, ⟨by omega, by omega⟩, q_judge hR (hr2 _) (hr2 _) _ (fun r1 s2 hg => ⟨⟨by omega, by omega⟩, ⟨by omega, by omega⟩, hg _ (fun r2 s3 he hR2 => ⟨fun _ v hv => ih v s3 hR2 (by omega) (by omega) (by omega), fun q => absurd he q⟩)⟩)⟩, fun _ => ?_⟩
      refine ⟨fun _ => ⟨⟨by omega, by omega⟩, ⟨by omega, by omega⟩, ⟨by omega, by omega⟩, ⟨by omega, by omega⟩, ⟨by omega, by omega⟩, q_value hR (hr2 _) (hr2 _) (hr2 _) (hr2 _) (hr2 _) _ (fun r1 s2 hg => ⟨⟨by omega, by omega⟩, ⟨by omega, by omega⟩, ⟨by omega, by omega⟩, ⟨by omega, by omega⟩, ⟨by omega, by omega⟩, hg _ (fun r2 s3 he hR2 => ⟨fun _ v hv => ih v s3 hR2 (by omega) (by omega) (by omega), fun q => absurd he q⟩)⟩)⟩, fun _ => ?_⟩
      refine ⟨fun _ => ⟨⟨by omega, by omega⟩, ⟨by omega, by omega⟩, ⟨by omega, by omega⟩, ⟨by omega, by omega⟩, q_entering hR (hr2 _) (hr2 _) (hr2 _) (hr2 _) _ (fun r1 s2 hg => ⟨⟨by omega, by omega⟩, ⟨by omega, by omega⟩, ⟨by omega, by omega⟩, ⟨by omega, by omega⟩, hg _ (fun r2 s3 he hR2 => ⟨fun _ v hv => ih v s3 hR2 (by omega) (by omega) (by omega), fun q => absurd he q⟩)⟩)⟩, fun _ => ?_⟩
      refine ⟨fun _ => ⟨⟨by omega, by omega⟩, ⟨by omega, by omega⟩, ⟨by omega, by omega⟩, ⟨by omega, by omega⟩, ⟨by omega, by omega⟩, q_when hR (hr2 _) (hr2 _) (hr2 _) (hr2 _) (hr2 _) _ (fun r1 s2 hg => ⟨⟨by omega, by omega⟩, ⟨by omega, by omega⟩, ⟨by omega, by omega⟩, ⟨by omega, by omega⟩, ⟨by omega, by omega⟩, hg _ (fun r2 s3 he hR2 => ⟨fun _ v hv => ih v s3 hR2 (by omega) (by omega) (by omega), fun q => absurd he q⟩)⟩)⟩, fun _ => ?_⟩
      refine ⟨fun _ => ⟨⟨by omega, by omega⟩, ⟨by omega, by omega⟩, ⟨by omega, by omega⟩, ⟨by omega, by omega⟩, q_least hR (hr2 _) (hr2 _) (hr2 _) (hr2 _) _ (fun r1 s2 hg => ⟨⟨by omega, by omega⟩, ⟨by omega, by omega⟩, ⟨by omega, by omega⟩, ⟨by omega, by omega⟩, hg _ (fun r2 s3 he hR2 => ⟨fun _ v hv => ih v s3 hR2 (by omega) (by omega) (by omega), fun q => absurd he q⟩)⟩)⟩, fun _ => ?_⟩
      refine ⟨fun _ => ⟨⟨by omega, by omega⟩, ⟨by omega, by omega⟩, ⟨by omega, by omega⟩, ⟨by omega, by omega⟩, ⟨by omega, by omega⟩, q_send hR (hr2 _) (hr2 _) (hr2 _) (hr2 _) (hr2 _) _ (fun r1 s2 hg => ⟨⟨by omega, by omega⟩, ⟨by omega, by omega⟩, ⟨by omega, by omega⟩, ⟨by omega, by omega⟩, ⟨by omega, by omega⟩, hg _ (fun r2 s3 he hR2 => ⟨fun _ v hv => ih v s3 hR2 (by omega) (by omega) (by omega), fun q => absurd he q⟩)⟩)⟩, fun _ => ?_⟩
      refine ⟨fun _ => ⟨⟨by omega, by omega⟩, ⟨by omega, by omega⟩, ⟨by omega, by omega⟩, q_out hR (hr2 _) (hr2 _) (hr2 _) _ (fun r1 s2 hg => ⟨⟨by omega, by omega⟩, ⟨by omega, by omega⟩, ⟨by omega, by omega⟩, hg _ (fun r2 s3 he hR2 => ⟨fun _ v hv => ih v s3 hR2 (by omega) (by omega) (by omega), fun q => absurd he q⟩)⟩)⟩, fun _ => ?_⟩
      refine ⟨fun _ => ⟨⟨by omega, by omega⟩, q_image hR (hr2 _) _ (fun r1 s2 hg => ⟨⟨by omega, by omega⟩, hg _ (fun r2 s3 he hR2 => ⟨fun _ v hv => ih v s3 hR2 (by omega) (by omega) (by omega), fun q => absurd he q⟩)⟩)⟩, fun _ => ?_⟩
      refine ⟨fun _ => ⟨⟨by omega, by omega⟩, q_on hR (hr2 _) _ (fun r1 s2 hg => ⟨⟨by omega, by omega⟩, hg _ (fun r2 s3 he hR2 => ⟨fun _ v hv => ih v s3 hR2 (by omega) (by omega) (by omega), fun q => absurd he q⟩)⟩)⟩, fun _ => ?_⟩
      refine ⟨fun _ => ⟨⟨by omega, by omega⟩, q_count hR (hr2 _) _ (fun r1 s2 hg => ⟨⟨by omega, by omega⟩, hg _ (fun r2 s3 he hR2 => ⟨fun _ v hv => ih v s3 hR2 (by omega) (by omega) (by omega), fun q => absurd he q⟩)⟩)⟩, fun _ => ?_⟩
      exact fun v hv => ih v s1 hR (by omega) (by omega) (by omega)
  exact key (L + 1) 0 mm_s0 Rel_0 (by omega) (by omega) (by omega)
