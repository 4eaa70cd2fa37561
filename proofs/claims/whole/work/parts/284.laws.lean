theorem v_fac {s : mm_M} {B : Int → Int} {n : Int} {L13 L57 post : Lab} {d : Int} {Br : Fn} {b : Prop} (hd : 0 ≤ d ∧ d ≤ 8) (hbd : b ↔ d < 8) (rN : ruN s B n L13 L57) (rI : ruI s B n L13 L57) (rX : ruX s B n L13 post) (h : b → ∀ u j m g T, uS s u B n j m g T → kdf B n (stf B n j) = 40 → (pf (Br (j + 1) m g) = -1 → ∀ u', uS s u' B n (pj (Br (j + 1) m g)) (pm (Br (j + 1) m g)) (pg (Br (j + 1) m g)) T → cq d u u' → L57 d u') → (pf (Br (j + 1) m g) ≠ -1 → bad s B n post (pf (Br (j + 1) m g))) → L13 d u) : hFa s B n L13 L57 post d (rF B n Br b) := by
  intro u j m g T hu k1 k0
  have hb := hu.2.1.2.2
  have sr := st_r hb j
  by_cases q1 : nmI B n (stf B n j) ≠ -1
  · have e : rF B n Br b j m g = (-1, j + 1, m + 1, fu g m (10000 + nmI B n (stf B n j))) := by unfold rF; rw [cif_p q1]
    rw [e] at k1
    exact rN d u j m g T hd.1 hd.2 hu q1 (fun u' h' c' => k1 rfl u' h' c')
  by_cases q2 : kdf B n (stf B n j) = 2 ∧ nmf B n (stf B n j) ≤ 9999
  · have e : rF B n Br b j m g = (-1, j + 1, m + 1, fu g m (nmf B n (stf B n j))) := by unfold rF; rw [cif_n q1, cif_p q2]
    rw [e] at k1
    exact rI d u j m g T hd.1 hd.2 hu q2 (fun u' h' c' => k1 rfl u' h' c')
  by_cases q3 : kdf B n (stf B n j) = 40 ∧ b
  · have e : rF B n Br b j m g = Br (j + 1) m g := by unfold rF; rw [cif_n q1, cif_n q2, cif_p q3]
    rw [e] at k1 k0
    exact h q3.2 u j m g T hu q3.1 k1 k0
  · have e : rF B n Br b j m g = (stf B n j, j, m, g) := by unfold rF; rw [cif_n q1, cif_n q2, cif_n q3]
    rw [e] at k0
    refine rX d u j m g T hd.1 hd.2 hu q1 q2 (fun p => q3 ⟨p.1, hbd.2 p.2⟩) (k0 (fun z => ?_) u j m g T hu rfl)
    have z : stf B n j = -1 := z
    omega
theorem v_brk {s : mm_M} {B : Int → Int} {n : Int} {L13 L57 post : Lab} {d : Int} {F : Fn} (hd : 0 ≤ d ∧ d < 8) (rB' : ruB s B n L13) (rC' : ruC s B n L57) (rQ : ruQ s B n L13 L57) (rR : ruR s B n L57 post) (rE' : ruE s B n L57 post) (hz : szF F) (h : hQ s B n L13 L57 post 1 (d + 1) noS F) (u : mm_M) (j m : Nat) (g : Int → Int) (T : List Int) (hu : uS s u B n j m g T) (hk : kdf B n (stf B n j) = 40) (k1 : pf (rB B n F (j + 1) m g) = -1 → ∀ u', uS s u' B n (pj (rB B n F (j + 1) m g)) (pm (rB B n F (j + 1) m g)) (pg (rB B n F (j + 1) m g)) T → cq d u u' → L57 d u') (k0 : pf (rB B n F (j + 1) m g) ≠ -1 → bad s B n post (pf (rB B n F (j + 1) m g))) : L13 d u := by
  have hb := hu.2.1.2.2
  have last : ∀ (Y : Pq) (w : mm_M) (Q : List Int) (y : Nat × (Int → Int)), rB B n F (j + 1) m g = rE B n Y → pf Y = -1 → uS s w B n (pj Y) y.1 y.2 (Q ++ -1 :: T) → flu Q y = (pm Y, pg Y) → prk 0 Q → noS (kdf B n (stf B n (pj Y))) → (kdf B n (stf B n (pj Y)) = 60 ∨ kdf B n (stf B n (pj Y)) = 61 → w 238 (d + 1) = 1) → cq d u w → L57 (d + 1) w := by
    intro Y w Q y e z hw f q nos c1 c
    have sr := st_r hb (pj Y)
    rw [e] at k1 k0
    unfold rE at k1 k0
    rw [if_pos z] at k1 k0
    by_cases t : kdf B n (stf B n (pj Y)) = 41
    · rw [if_pos t] at k1
      have em : eml 0 (Q ++ -1 :: T) (y.1, y.2) = (-1 :: T, (pm Y, pg Y)) := eml_q (Or.inr ⟨-1, T, rfl, Or.inl rfl⟩) q f
      exact rC' d w (pj Y) y.1 y.2 (Q ++ -1 :: T) T (pm Y, pg Y) hd.1 hd.2 hw t em (fun w1 h1 cc => k1 rfl w1 h1 (c.tr (cc.le (by omega))))
    · rw [if_neg t] at k0
      have k0 := k0 (fun z => by
        have z : stf B n (pj Y) = -1 := z
        omega) w (pj Y) y.1 y.2 (Q ++ -1 :: T) hw rfl
      by_cases t2 : kdf B n (stf B n (pj Y)) = 60 ∨ kdf B n (stf B n (pj Y)) = 61
      · exact rR (d + 1) w (pj Y) y.1 y.2 (Q ++ -1 :: T) (by omega) (by omega) hw t2 (Or.inr (c1 t2)) k0
      · exact rE' (d + 1) w (pj Y) y.1 y.2 (Q ++ -1 :: T) (by omega) (by omega) hw nos t (fun x => t2 (Or.inl x)) (fun x => t2 (Or.inr x)) k0
  refine rB' d u j m g T hd.1 hd.2 hu hk (fun u1 h1 c1 z1 => h u1 (j + 1) m g (-1 :: T) (Or.inr ⟨-1, T, rfl, Or.inl rfl⟩) h1 (fun p u2 Q x h2 f2 q2 o2 c2 => ?_) (fun p => ?_))
  · have c2d : cq d u u2 := c1.tr (c2.le (by omega))
    have z2 : u2 238 (d + 1) = 0 := by rw [c2 (d + 1) (by omega)]; exact z1
    by_cases t : kdf B n (stf B n (pj (F (j + 1) m g))) = 60 ∨ kdf B n (stf B n (pj (F (j + 1) m g))) = 61
    · have e : rB B n F (j + 1) m g = rE B n (pw (F (pj (F (j + 1) m g) + 1) (pm (F (j + 1) m g)) (pg (F (j + 1) m g))) (20000 + kdf B n (stf B n (pj (F (j + 1) m g))))) := by
        unfold rB rC
        rw [if_pos ⟨p, t⟩]
      have go : ∀ o : Int, (o = 5 ∧ kdf B n (stf B n (pj (F (j + 1) m g))) = 60 ∨ o = 6 ∧ kdf B n (stf B n (pj (F (j + 1) m g))) = 61) → L57 (d + 1) u2 := by
        intro o ho
        have r1 : rkf o = 0 := by rcases ho with q | q <;> rw [q.1] <;> rfl
        have o1 : o ≠ -1 := by omega
        have co : cdf o = 20000 + kdf B n (stf B n (pj (F (j + 1) m g))) := by rcases ho with q | q <;> rw [q.1, q.2] <;> rfl
        have em : eml 1 (Q ++ -1 :: T) (x.1, x.2) = (-1 :: T, (pm (F (j + 1) m g), pg (F (j + 1) m g))) := eml_q (Or.inr ⟨-1, T, rfl, Or.inl rfl⟩) q2 f2
        refine rQ (d + 1) u2 (pj (F (j + 1) m g)) x.1 x.2 (Q ++ -1 :: T) (-1 :: T) (pm (F (j + 1) m g), pg (F (j + 1) m g)) o (by omega) (by omega) h2 ho z2 em (fun u3 h3 c3 z3 => h u3 (pj (F (j + 1) m g) + 1) (pm (F (j + 1) m g)) (pg (F (j + 1) m g)) (o :: -1 :: T) (Or.inr ⟨o, -1 :: T, rfl, Or.inr (by omega)⟩) h3 (fun p4 u4 Q4 x4 h4 f4 q4 o4 c4 => ?_) (fun p4 => ?_))
        · refine last _ u4 (Q4 ++ [o]) x4 e p4 ?_ ?_ (prk_a (prk_w q4 (by omega)) (prk_1 ⟨o1, by omega⟩)) o4 (fun _ => by rw [c4 (d + 1) (by omega)]; exact z3) ((c2d.tr (c3.le (by omega))).tr (c4.le (by omega)))
          · rw [List.append_assoc]; exact h4
          · rw [flu_a, f4]
            show (pm (F (pj (F (j + 1) m g) + 1) (pm (F (j + 1) m g)) (pg (F (j + 1) m g))) + 1, fu (pg (F (pj (F (j + 1) m g) + 1) (pm (F (j + 1) m g)) (pg (F (j + 1) m g)))) (pm (F (pj (F (j + 1) m g) + 1) (pm (F (j + 1) m g)) (pg (F (j + 1) m g)))) (cdf o)) = _
            rw [co]
            rfl
        · have p2 : pf (pw (F (pj (F (j + 1) m g) + 1) (pm (F (j + 1) m g)) (pg (F (j + 1) m g))) (20000 + kdf B n (stf B n (pj (F (j + 1) m g))))) ≠ -1 := p4
          rw [e] at k0
          unfold rE at k0
          rw [if_neg p2] at k0
          exact k0 p2
      rcases t with t | t
      · exact go 5 (Or.inl ⟨rfl, t⟩)
      · exact go 6 (Or.inr ⟨rfl, t⟩)
    · refine last (F (j + 1) m g) u2 Q x ?_ p h2 f2 (prk_w q2 (by omega)) o2 (fun z => absurd z t) c2d
      unfold rB rC
      rw [if_neg (fun z => t z.2)]
  · have e : rB B n F (j + 1) m g = F (j + 1) m g := by
      unfold rB rC
      rw [if_neg (fun z => p z.1)]
      unfold rE
      rw [if_neg p]
    rw [e] at k0
    exact k0 p
/-- the whole descent, from the rules of the row of waiting signs -/
theorem v_all {s : mm_M} {B : Int → Int} {n : Int} {L13 L57 post : Lab} (hb : bok B n) (rB' : ruB s B n L13) (rN : ruN s B n L13 L57) (rI : ruI s B n L13 L57) (rX : ruX s B n L13 post) (rC' : ruC s B n L57) (rO : ruO s B n L13 L57) (rQ : ruQ s B n L13 L57) (rR : ruR s B n L57 post) (rE' : ruE s B n L57 post) (rZ : ruZ s B n L57 post)
    {u : mm_M} {j m : Nat} {g : Int → Int} (hu : uS s u B n j m g [])
    (k1 : pf (lwS B n j m g) = -1 → ∀ u', uS s u' B n (pj (lwS B n j m g)) (pm (lwS B n j m g)) (pg (lwS B n j m g)) [] → post 1 u')
    (k2 : pf (lwS B n j m g) = -1 → kdf B n (stf B n (pj (lwS B n j m g))) ≠ 59 → bad s B n post (stf B n (pj (lwS B n j m g))))
    (k0 : pf (lwS B n j m g) ≠ -1 → bad s B n post (pf (lwS B n j m g))) : L13 0 u := by
  have lv : ∀ e : Nat, e ≤ 8 → hFa s B n L13 L57 post (8 - (e : Int)) (lvF B n e) := by
    intro e
    induction e with
    | zero =>
      intro _
      exact v_fac ⟨by omega, by omega⟩ ⟨fun z => z.elim, fun z => by omega⟩ rN rI rX (fun z => z.elim)
    | succ e ih =>
      intro he
      have sz := lvF_sz hb e
      have h1 := v_prod ⟨by omega, by omega⟩ rO sz (ih (by omega))
      have h2 := v_sum ⟨by omega, by omega⟩ rO (rP_sz sz) h1
      rw [show 8 - (e : Int) = 8 - ((e + 1 : Nat) : Int) + 1 by omega] at h2
      refine v_fac ⟨by omega, by omega⟩ ⟨fun _ => by omega, fun _ => trivial⟩ rN rI rX (fun _ u j m g T hu hk a b => v_brk ⟨by omega, by omega⟩ rB' rC' rQ rR rE' (rS_sz (rP_sz sz)) h2 u j m g T hu hk a b)
  have sz := lvF_sz hb 8
  have h1 := v_prod ⟨by omega, by omega⟩ rO sz (lv 8 (by omega))
  have h2 := v_sum ⟨by omega, by omega⟩ rO (rP_sz sz) h1
  have h2 : hQ s B n L13 L57 post 1 0 noS (lwS B n) := h2
  refine h2 u j m g [] (Or.inl rfl) hu (fun p u' Q x h' f q o c => ?_) k0
  by_cases t : kdf B n (stf B n (pj (lwS B n j m g))) = 60 ∨ kdf B n (stf B n (pj (lwS B n j m g))) = 61
  · exact rR 0 u' _ x.1 x.2 (Q ++ []) (by omega) (by omega) h' t (Or.inl rfl) (k2 p (by omega) u' _ x.1 x.2 (Q ++ []) h' rfl)
  · exact rZ u' _ x.1 x.2 (Q ++ []) [] _ h' o (fun z => t (Or.inl z)) (fun z => t (Or.inr z)) (eml_q (Or.inl rfl) (prk_w q (by omega)) f) (fun w hw => k1 p w hw)
