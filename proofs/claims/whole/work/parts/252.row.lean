/-! the reference's row -/
/-- the row that the reference holds: the class's of s -/
def cM (s t : mm_M) (n : Nat) : Prop := cR s n ∧ t 211 38 = n ∧ (∀ k : Int, 0 ≤ k → k < n → t 232 k = s 200 k ∧ t 233 k = s 201 k) ∧ ag s t
def fG (s u : mm_M) : Prop := ∀ a j, ¬ (a = 211 ∧ j = 51) → a ≠ 241 → u a j = s a j
theorem fG.c {s u : mm_M} (h : fG s u) {a : Nat} (h1 : a ≠ 211) (h2 : a ≠ 241) : u a = s a := funext fun j => h a j (fun z => h1 z.1) h2
theorem fG.ag {s u : mm_M} (h : fG s u) : ag s u := fun a j q => by
  refine h a j (fun z => ?_) (fun z => ?_)
  · rw [z.1, z.2] at q; cases q
  · rw [z] at q; cases (show scr 241 j = true from rfl).symm.trans q
theorem ag.cM {s t u : mm_M} (h : ag t u) {n : Nat} (c : cM s t n) : cM s u n := ⟨c.1, by rw [h 211 38 rfl]; exact c.2.1, fun k k1 k2 => by rw [h.c (a := 232) (fun _ => rfl), h.c (a := 233) (fun _ => rfl)]; exact c.2.2.1 k k1 k2, c.2.2.2.tr h⟩
/-- gathered: who stands there at t -/
def isG (s u : mm_M) (n V : Nat) (t : Int) : Prop := u 211 51 = (gth (s 200) V t n).1 ∧ ∀ p, 0 ≤ p → p < (gth (s 200) V t n).1 → u 241 p = (gth (s 200) V t n).2 p
theorem u_gathers {s t : mm_M} {n V : Nat} {w : Int} (c : cM s t n) (hV : V < 256) (hw : 0 ≤ w ∧ w ≤ 1000) {post : mm_M → Prop} (hp : ∀ u, fG t u → isG s u n V w → post u) : wp_X11_gathers 211 V w t post := by
  have n8 := c.1.2.1
  intro L7 h7 s1 e1
  have key : ∀ d x : Nat, x + d = n → ∀ u, fG t u → isG s u x V w → L7 x u := by
    intro d
    induction d with
    | zero =>
      intro x hx u fo gu
      have : x = n := by omega
      subst this
      have e38 : u 211 38 = x := by rw [fo 211 38 (by omega) (by omega)]; exact c.2.1
      apply h7
      rw [e38]
      exact ⟨fun _ => hp u fo gu, fun q => absurd (Int.le_refl _) q⟩
    | succ d ih =>
      intro x hx u fo gu
      have e38 : u 211 38 = n := by rw [fo 211 38 (by omega) (by omega)]; exact c.2.1
      have e232 : u 232 x = s 200 x := by rw [fo.c (a := 232) (by omega) (by omega)]; exact (c.2.2.1 x (by omega) (by omega)).1
      have cx := c.1.2.2 x (by omega) (by omega)
      have go := gth_ok (ca := s 200) (V := V) (t := w) x
      apply h7
      rw [e38, n32_id (x := (n : Int)) (by omega) (by omega), n32_id (x := (x : Int)) (by omega) (by omega), b_bt V hV x (by omega), show mm_rt 211 39 = 232 from rfl, show mm_rt 211 50 = 241 from rfl, e232, n32_id (x := s 200 x) (by omega) (by omega), n32_id (x := w) (by omega) (by omega), gu.1]
      refine ⟨fun q => by omega, fun _ => ?_⟩
      have same : ¬ (V.testBit x = false ∧ s 200 x ≤ w) → ∀ v : Int, v = (x : Int) + 1 → L7 v u := by
        intro q v ev
        rw [ev, show (x : Int) + 1 = ((x + 1 : Nat) : Int) by omega]
        refine ih (x + 1) (by omega) u fo ?_
        unfold isG
        rw [gth_n q]
        exact gu
      by_cases q : V.testBit x = true
      · rw [if_pos q]
        exact ⟨fun _ => same (fun z => by rw [q] at z; cases z.1), fun z => absurd rfl z⟩
      · rw [if_neg q]
        refine ⟨fun z => absurd z (by decide), fun _ => ⟨⟨by omega, by omega⟩, fun z => ⟨⟨by omega, by omega⟩, fun s4 e4 s5 e5 v ev => ?_⟩, fun z => same (fun y => z y.2)⟩⟩
        have y := gth_y (ca := s 200) (V := V) (t := w) (k := x) ⟨b_no q, z⟩
        have e51 : s4 211 51 = (gth (s 200) V w x).1 := by rw [e4, up_c (by decide)]; exact gu.1
        rw [ev, show (x : Int) + 1 = ((x + 1 : Nat) : Int) by omega]
        refine ih (x + 1) (by omega) s5 (fun a j h1 h2 => ?_) ⟨?_, fun p p1 p2 => ?_⟩
        · rw [e5, up_n (by omega), e4, up_c h2]
          exact fo a j h1 h2
        · rw [e5, up_e, e51, y]
        · rw [y]
          rw [y] at p2
          have p2 : p < (gth (s 200) V w x).1 + 1 := p2
          show s5 241 p = fu _ _ _ p
          rw [e5, up_c (by decide), e4]
          by_cases r : p = (gth (s 200) V w x).1
          · rw [r, up_e, fu_e]
          · rw [up_n (Or.inr r), fu_n r]
            exact gu.2 p p1 (by omega)
  refine key n 0 (by omega) s1 (fun a j h1 h2 => by rw [e1, up_n (by omega)]) ⟨by rw [e1, up_e]; rfl, fun p p1 p2 => ?_⟩
  have p2 : p < 0 := p2
  omega
theorem u_minR {s t : mm_M} {n V : Nat} {now : Int} (c : cM s t n) (hV : V < 256) (hw : 0 ≤ now ∧ now ≤ 1000) (hf : fst0 V n < n) {post : Int → mm_M → Prop} (hp : ∀ u, fG t u → isG s u n V (tmv (s 200) V n now) → post (tmv (s 200) V n now) u) : wp_X11_nextMinute 211 V now t post := by
  have n8 := c.1.2.1
  have o := fst0_ok V n
  have gn := gth_now (now := now) c.1.2 hf
  have go := gth_ok (ca := s 200) (V := V) (t := now) n
  have et : tmv (s 200) V n now = m2 now (s 200 (fst0 V n)) := by unfold tmv; rw [if_pos hf]
  intro L11 h11 v3 e3
  rw [e3]
  refine u_gathers c hV hw (fun u fu gu => ?_)
  by_cases q : now < s 200 (fst0 V n)
  · have z := gn.1 q
    rw [et, m2_p q] at hp
    have key : ∀ d x : Nat, x + d = fst0 V n → L11 now x u := by
      intro d
      induction d with
      | zero =>
        intro x hx
        have : x = fst0 V n := by omega
        subst this
        have cx := c.1.2.2 (fst0 V n) (by omega) (by omega)
        have cu := fu.ag.cM c
        apply h11
        rw [cu.2.1, n32_id (x := (n : Int)) (by omega) (by omega), n32_id (x := (fst0 V n : Int)) (by omega) (by omega), gu.1, z, b_bt V hV (fst0 V n) (by omega), o.2.2 hf, if_neg (by decide), show mm_rt 211 39 = 232 from rfl, (cu.2.2.1 (fst0 V n) (by omega) (by omega)).1]
        refine ⟨fun y => by omega, fun _ => ⟨fun y => absurd m_0 y, fun _ => ⟨fun _ => ⟨⟨by omega, by omega⟩, fun v5 e5 => ?_⟩, fun y => absurd y (by decide)⟩⟩⟩
        rw [e5]
        refine u_gathers cu hV ⟨by omega, by omega⟩ (fun u2 f2 g2 v8 e8 => ?_)
        have ok := gth_ok (ca := s 200) (V := V) (t := s 200 (fst0 V n)) n
        have pos := gth_pos (ca := s 200) (t := s 200 (fst0 V n)) hf ⟨o.2.2 hf, Int.le_refl _⟩
        have fin := hp u2 (fun a j h1 h2 => (f2 a j h1 h2).trans (fu a j h1 h2)) g2
        rw [e8, show (fst0 V n : Int) + 1 = ((fst0 V n + 1 : Nat) : Int) by omega]
        apply h11
        rw [g2.1, n32_id (x := (gth (s 200) V (s 200 (fst0 V n)) n).1) (by omega) (by omega)]
        exact ⟨fun _ => fin, fun _ => ⟨fun _ => fin, fun y => by omega⟩⟩
      | succ d ih =>
        intro x hx
        have cu := fu.ag.cM c
        apply h11
        rw [cu.2.1, n32_id (x := (n : Int)) (by omega) (by omega), n32_id (x := (x : Int)) (by omega) (by omega), gu.1, z, b_bt V hV x (by omega), o.2.1 x (by omega), if_pos rfl]
        refine ⟨fun y => by omega, fun _ => ⟨fun y => absurd m_0 y, fun _ => ⟨fun y => absurd rfl y, fun _ v ev => ?_⟩⟩⟩
        rw [ev, show (x : Int) + 1 = ((x + 1 : Nat) : Int) by omega]
        exact ih (x + 1) (by omega)
    exact key (fst0 V n) 0 (by omega)
  · have pos := gn.2 q
    rw [et, m2_n q] at hp
    apply h11
    rw [gu.1, n32_id (x := (gth (s 200) V now n).1) (by omega) (by omega)]
    exact ⟨fun _ => hp u fu gu, fun _ => ⟨fun _ => hp u fu gu, fun y => by omega⟩⟩
theorem u_comerBy {s t : mm_M} {n V : Nat} {l w : Int} (hL : r_L s) (c : cM s t n) (hl : 0 ≤ l ∧ l ≤ 8) (hg : isG s t n V w) (hm : 0 < (gth (s 200) V w n).1) {post : Int → mm_M → Prop} (hp : ∀ u, f39 t u → post (whR s l n V w) u) : wp_X11_comerBy 211 l w t post := by
  have n8 := c.1.2.1
  have go := gth_ok (ca := s 200) (V := V) (t := w) n
  have pr := plR_r (s := s) (l := l) (t := w) (g := gth (s 200) V w n) ⟨hm, by omega⟩
  have at0 := c.2.2.2
  have hLt := at0.rL hL
  have l4 : t 19 4 = s 19 4 := at0 19 4 rfl
  have l1 := hL.2.1
  intro L30 h30
  refine u_isTold hLt hl (fun q1 q2 => ⟨fun _ => ?_, fun z => absurd z (by decide)⟩) (fun q => ⟨fun z => absurd m_0 z, fun _ => ?_⟩)
  · rw [l4] at q2
    have hi : 0 ≤ l - 4 ∧ l - 4 < s 19 4 := by omega
    have ep : plR s l w (gth (s 200) V w n) = (bs (s 22 (l - 4)) (fun p => lv s (l - 4) (nmR (s 200) (s 201) w (gth (s 200) V w n).1 (gth (s 200) V w n).2 p)) (gth (s 200) V w n).1.toNat).1 := by
      unfold plR
      rw [if_pos ⟨q1, q2⟩]
    have ew : whR s l n V w = (gth (s 200) V w n).2 (plR s l w (gth (s 200) V w n)) := rfl
    rw [ew] at hp
    rw [ep] at hp pr
    generalize hG : gth (s 200) V w n = G at hg hm go pr hp
    have key : ∀ d x : Nat, (x : Int) + d = G.1 → ∀ u, f39 t u → L30 (if x = 0 then 0 else (bs (s 22 (l - 4)) (fun p => lv s (l - 4) (nmR (s 200) (s 201) w G.1 G.2 p)) x).1) (bs (s 22 (l - 4)) (fun p => lv s (l - 4) (nmR (s 200) (s 201) w G.1 G.2 p)) x).2 x u := by
      intro d
      induction d with
      | zero =>
        intro x hx u fu
        have e51 : u 211 51 = G.1 := by rw [fu 211 (by decide) (by decide)]; unfold isG at hg; rw [hG] at hg; exact hg.1
        apply h30
        rw [show mm_rt 211 50 = 241 from rfl, e51, n32_id (x := G.1) (by omega) (by omega), n32_id (x := (x : Int)) (by omega) (by omega), if_neg (by omega)]
        rw [show G.1.toNat = x by omega] at pr hp
        refine ⟨fun _ => ⟨⟨pr.1, by omega⟩, ?_⟩, fun q => by omega⟩
        have e41 : u 241 (bs (s 22 (l - 4)) (fun p => lv s (l - 4) (nmR (s 200) (s 201) w G.1 G.2 p)) x).1 = G.2 (bs (s 22 (l - 4)) (fun p => lv s (l - 4) (nmR (s 200) (s 201) w G.1 G.2 p)) x).1 := by
          rw [fu 241 (by decide) (by decide)]
          unfold isG at hg
          rw [hG] at hg
          exact hg.2 _ pr.1 pr.2
        rw [e41]
        exact hp u fu
      | succ d ih =>
        intro x hx u fu
        unfold isG at hg
        rw [hG] at hg
        have e51 : u 211 51 = G.1 := by rw [fu 211 (by decide) (by decide)]; exact hg.1
        have gx := go.2.2 x (by omega) (by omega)
        have w41 : ∀ v : mm_M, f39 t v → v 241 x = G.2 x := fun v fv => by rw [fv 241 (by decide) (by decide)]; exact hg.2 x (by omega) (by omega)
        have w51 : ∀ v : mm_M, f39 t v → v 211 51 = G.1 := fun v fv => by rw [fv 211 (by decide) (by decide)]; exact hg.1
        have w39 : ∀ v : mm_M, f39 t v → v 232 (G.2 x) = s 200 (G.2 x) := fun v fv => by rw [fv 232 (by decide) (by decide)]; exact (c.2.2.1 _ gx.1 gx.2.1).1
        have w40 : ∀ v : mm_M, f39 t v → v 233 (G.2 x) = s 201 (G.2 x) := fun v fv => by rw [fv 233 (by decide) (by decide)]; exact (c.2.2.1 _ gx.1 gx.2.1).2
        have up : ∀ {a b : mm_M} {j v : Int}, f39 t a → b = mm_up a 239 j v → f39 t b := fun fa e y y1 y2 => by rw [e, up_c y1]; exact fa y y1 y2
        have b1 : 0 ≤ (x : Int) ∧ (x : Int) < 8 := by omega
        have b2 : 0 ≤ G.2 x ∧ G.2 x < 8 := by omega
        apply h30
        rw [show mm_rt 211 50 = 241 from rfl, show mm_rt 211 48 = 239 from rfl, show mm_rt 211 39 = 232 from rfl, show mm_rt 211 40 = 233 from rfl, e51, n32_id (x := G.1) (by omega) (by omega), n32_id (x := (x : Int)) (by omega) (by omega), w41 u fu, w39 u fu]
        refine ⟨fun q => by omega, fun _ => ⟨b1, b2, fun s8 e8 => ?_⟩⟩
        have f8 := up fu e8
        rw [w41 s8 f8, w39 s8 f8]
        refine ⟨b1, b2, fun s9 e9 => ?_⟩
        have f9 := up f8 e9
        rw [w41 s9 f9, w40 s9 f9]
        refine ⟨b1, b2, fun s10 e10 s11 e11 s12 e12 s13 e13 s14 e14 s15 e15 s16 e16 s17 e17 => ?_⟩
        have f10 := up f9 e10
        have f11 := up f10 e11
        have f12 := up f11 e12
        rw [w51 s12 f12] at e13
        have f13 := up f12 e13
        rw [w51 s13 f13] at e14
        have f14 := up f13 e14
        have f15 := up f14 e15
        have f16 := up f15 e16
        have f17 := up f16 e17
        have a17 : ag s s17 := at0.tr f17.ag
        have l17 : s17 19 4 = s 19 4 := a17 19 4 rfl
        refine u_says (a17.rL hL) (by rw [l17]; exact hi) (fun v fv v6 e6 => ?_)
        have lve : lv s17 (l - 4) (s17 239) = lv s (l - 4) (nmR (s 200) (s 201) w G.1 G.2 x) := by
          have a1 : lv s17 (l - 4) (s17 239) = lv s (l - 4) (s17 239) := by
            unfold lv
            rw [a17.c (a := 222) (fun _ => rfl), a17.c (a := 223) (fun _ => rfl)]
          rw [a1]
          refine lv_c hL hi (fun n n1 n2 => ?_)
          have n9 : s17 239 9 = 0 := by rw [e17, up_e]
          have n8 : s17 239 8 = 200 - w := by rw [e17, up_n (by decide), e16, up_e]
          have n7 : s17 239 7 = w := by rw [e17, up_n (by decide), e16, up_n (by decide), e15, up_e]
          have n6 : s17 239 6 = G.1 := by rw [e17, up_n (by decide), e16, up_n (by decide), e15, up_n (by decide), e14, up_e]
          have n5 : s17 239 5 = G.1 - 1 - x := by rw [e17, up_n (by decide), e16, up_n (by decide), e15, up_n (by decide), e14, up_n (by decide), e13, up_e]
          have n4 : s17 239 4 = x := by rw [e17, up_n (by decide), e16, up_n (by decide), e15, up_n (by decide), e14, up_n (by decide), e13, up_n (by decide), e12, up_e]
          have n3 : s17 239 3 = 0 := by rw [e17, up_n (by decide), e16, up_n (by decide), e15, up_n (by decide), e14, up_n (by decide), e13, up_n (by decide), e12, up_n (by decide), e11, up_e]
          have n2' : s17 239 2 = s 201 (G.2 x) := by rw [e17, up_n (by decide), e16, up_n (by decide), e15, up_n (by decide), e14, up_n (by decide), e13, up_n (by decide), e12, up_n (by decide), e11, up_n (by decide), e10, up_e]
          have n1' : s17 239 1 = w - s 200 (G.2 x) := by rw [e17, up_n (by decide), e16, up_n (by decide), e15, up_n (by decide), e14, up_n (by decide), e13, up_n (by decide), e12, up_n (by decide), e11, up_n (by decide), e10, up_n (by decide), e9, up_e]
          have n0' : s17 239 0 = s 200 (G.2 x) := by rw [e17, up_n (by decide), e16, up_n (by decide), e15, up_n (by decide), e14, up_n (by decide), e13, up_n (by decide), e12, up_n (by decide), e11, up_n (by decide), e10, up_n (by decide), e9, up_n (by decide), e8, up_e]
          clear e17 e16 e15 e14 e13 e12 e11 e10 e9 e8
          have hn : n = 0 ∨ n = 1 ∨ n = 2 ∨ n = 3 ∨ n = 4 ∨ n = 5 ∨ n = 6 ∨ n = 7 ∨ n = 8 ∨ n = 9 := by omega
          rcases hn with h | h | h | h | h | h | h | h | h | h <;> subst h
          · exact n0'
          · exact n1'
          · exact n2'
          · exact n3
          · exact n4
          · exact n5
          · exact n6
          · exact n7
          · exact n8
          · exact n9
        rw [lve] at e6
        have fv2 : f39 t v := fun a a1 a2 => by rw [fv a a2]; exact f17 a a1 a2
        have nx := ih (x + 1) (by omega) v fv2
        rw [if_neg (by omega), show ((x + 1 : Nat) : Int) = (x : Int) + 1 by omega, bs] at nx
        refine ⟨fun q z1 y1 z2 y2 z3 y3 => ?_, fun q => ?_⟩
        · rw [if_pos (Or.inl (by omega))] at nx
          rw [y1, y2, y3, e6]
          exact nx
        · have av : ag s v := at0.tr fv2.ag
          have lv4 : v 19 4 = s 19 4 := av 19 4 rfl
          have v22' : v 22 = s 22 := av.c (fun _ => rfl)
          refine u_isNext (av.rL hL) (by rw [lv4]; exact hi) (fun z => ⟨fun _ z1 y1 z2 y2 z3 y3 => ?_, fun y => absurd y (by decide)⟩) (fun z => ⟨fun y => absurd m_0 y, fun _ z3 y3 => ?_⟩)
          · rw [v22', e6] at z
            rw [if_pos (Or.inr z)] at nx
            rw [y1, y2, y3, e6]
            exact nx
          · rw [v22', e6] at z
            rw [if_neg (fun y => by rcases y with y | y; omega; exact z y)] at nx
            rw [y3, if_neg (by omega)]
            exact nx
    exact key G.1.toNat 0 (by omega) t (fun _ _ _ => rfl)
  · rw [l4] at q
    have e : plR s l w (gth (s 200) V w n) = pb l (gth (s 200) V w n).1 := by
      unfold plR
      rw [if_neg (by omega)]
    rw [e] at pr
    rw [hg.1, show mm_rt 211 50 = 241 from rfl]
    refine s_pbM (n32_id (by omega) (by omega)) ⟨⟨pr.1, by omega⟩, ?_⟩
    have := hp t (fun _ _ _ => rfl)
    unfold whR at this
    rw [e] at this
    rw [hg.2 _ pr.1 pr.2]
    exact this
/-- what the reference's run leaves -/
def rv (s u : mm_M) (l : Int) (n i : Nat) : Prop := cM s u n ∧ (∀ j : Int, 0 ≤ j → j < i → u 242 j = rO s l n i j) ∧ (∀ k : Nat, k < n → (rn s l n i).1.testBit k = true → u 243 k = rWt s l n i k) ∧ u 211 54 = smV (rWt s l n i) (rn s l n i).1 n ∧ u 211 55 = mxV (rWt s l n i) (rn s l n i).1 n
theorem mxV_r {f : Int → Int} {V : Nat} {B : Int} (hB : 0 ≤ B) {n : Nat} (h : ∀ k : Int, 0 ≤ k → k < n → 0 ≤ f k ∧ f k ≤ B) : ∀ m : Nat, m ≤ n → 0 ≤ mxV f V m ∧ mxV f V m ≤ B := by
  intro m
  induction m with
  | zero => intro _; rw [mxV]; omega
  | succ m ih =>
    intro hm
    have a := ih (by omega)
    have b := h m (by omega) (by omega)
    rw [mxV]
    unfold m2
    split <;> split <;> omega
theorem u_runs {s t : mm_M} {n : Nat} {l : Int} (hL : r_L s) (c : cM s t n) (hl : 0 ≤ l ∧ l ≤ 8) {post : mm_M → Prop} (hp : ∀ u, rv s u l n n → post u) : wp_X11_runs 211 l t post := by
  have n8 := c.1.2.1
  have ok := rn_ok (l := l) c.1.2
  intro L17 h17 s3 e3 s4 e4
  have key : ∀ d x : Nat, x + d = n → ∀ u, rv s u l n x → L17 (rn s l n x).1 (rn s l n x).2 x u := by
    intro d
    induction d with
    | zero =>
      intro x hx u hu
      have : x = n := by omega
      subst this
      apply h17
      rw [hu.1.2.1]
      exact ⟨fun _ => hp u hu, fun q => absurd (Int.le_refl _) q⟩
    | succ d ih =>
      intro x hx u hu
      obtain ⟨a1, a2, a3, a4, a5, a5', a6⟩ := ok x (by omega)
      obtain ⟨b1, b2, b3, b4, b5, b6, b7, b8⟩ := a6 (by omega)
      obtain ⟨cu, g1, g2, g3, g4⟩ := hu
      apply h17
      rw [cu.2.1, n32_id (x := (n : Int)) (by omega) (by omega), n32_id (x := (x : Int)) (by omega) (by omega)]
      refine ⟨fun q => by omega, fun _ => ?_⟩
      refine u_minR cu a1 ⟨a3, by omega⟩ b1 (fun u1 f1 i1 v3 ev3 => ?_)
      have c1 := f1.ag.cM cu
      rw [ev3]
      have er : tmv (s 200) (rn s l n x).1 n (rn s l n x).2 = rtm s l n x := rfl
      rw [er] at i1 ⊢
      refine u_comerBy hL c1 hl i1 b4 (fun u2 f2 v5 ev5 => ?_)
      have c2 := f2.ag.cM c1
      have ew : whR s l n (rn s l n x).1 (rtm s l n x) = rwh s l n x := rfl
      rw [ew] at ev5
      rw [ev5, show mm_rt 211 39 = 232 from rfl, show mm_rt 211 40 = 233 from rfl, show mm_rt 211 52 = 242 from rfl, show mm_rt 211 53 = 243 from rfl]
      have bw : 0 ≤ rwh s l n x ∧ rwh s l n x < 8 := by omega
      refine ⟨⟨by omega, by omega⟩, fun s12 e12 => ⟨bw, bw, fun s13 e13 => ⟨bw, fun s14 e14 => ⟨bw, fun s15 e15 v2' e2' => ⟨bw, fun v3' e3' v4' e4' => ?_⟩⟩⟩⟩⟩
      have h12 : ag u2 s12 := by rw [e12]; exact ag.rf.up rfl
      have c12 := h12.cM c2
      rw [(c12.2.2.1 _ b5 b6).1] at e13
      have h13 : ag u2 s13 := by rw [e13]; exact h12.up rfl
      have w13 : s13 243 (rwh s l n x) = rtm s l n x - s 200 (rwh s l n x) := by rw [e13, up_e]
      have z54 : s13 211 54 = smV (rWt s l n x) (rn s l n x).1 n := by
        rw [e13, up_c (by decide), e12, up_c (by decide), f2 211 (by decide) (by decide), f1 211 54 (by omega) (by omega)]; exact g3
      rw [w13, z54] at e14
      have h14 : ag u2 s14 := by rw [e14]; exact h13.up rfl
      have w14 : s14 243 (rwh s l n x) = rtm s l n x - s 200 (rwh s l n x) := by rw [e14, up_c (by decide)]; exact w13
      have z55 : s14 211 55 = mxV (rWt s l n x) (rn s l n x).1 n := by
        rw [e14, up_n (by decide), e13, up_c (by decide), e12, up_c (by decide), f2 211 (by decide) (by decide), f1 211 55 (by omega) (by omega)]; exact g4
      have cw := c.1.2.2 (rwh s l n x) b5 b6
      have mr := mxV_r (f := rWt s l n x) (V := (rn s l n x).1) (B := 400) (by omega) a5 n (Nat.le_refl n)
      have em : mm_max (mxV (rWt s l n x) (rn s l n x).1 n) (rtm s l n x - s 200 (rwh s l n x)) = m2 (mxV (rWt s l n x) (rn s l n x).1 n) (rtm s l n x - s 200 (rwh s l n x)) := by
        unfold mm_max m2
        rw [n32_id (x := mxV (rWt s l n x) (rn s l n x).1 n) (by omega) (by omega), n32_id (x := rtm s l n x - s 200 (rwh s l n x)) (by omega) (by omega)]
      rw [w14, z55, em] at e15
      have h15 : ag u2 s15 := by rw [e15]; exact h14.up rfl
      have c15 := h15.cM c2
      rw [(c15.2.2.1 _ b5 b6).2] at e3'
      have eb : (((rwh s l n x).toNat : Nat) : Int) = rwh s l n x := by omega
      have bo := b_or (rn s l n x).1 a1 (rwh s l n x).toNat (by omega)
      rw [eb] at bo
      rw [bo.1] at e2'
      have nx := ih (x + 1) (by omega) s15 ⟨c15, ?_, ?_, ?_, ?_⟩
      · rw [rn_s, show ((x + 1 : Nat) : Int) = (x : Int) + 1 by omega] at nx
        rw [e2', e3', e4']
        exact nx
      · intro j j1 j2
        show s15 242 j = fu _ _ _ j
        rw [e15, up_c (by decide), e14, up_c (by decide), e13, up_c (by decide), e12]
        by_cases z : j = x
        · rw [z, up_e, fu_e]
        · rw [up_n (Or.inr z), fu_n z, f2 242 (by decide) (by decide), f1.c (a := 242) (by decide) (by decide)]
          exact g1 j j1 (by omega)
      · intro k hk hb
        have hb := b_in.mp hb
        show s15 243 k = fu _ _ _ (k : Int)
        rw [e15, up_c (by decide), e14, up_c (by decide), e13]
        by_cases z : (k : Int) = rwh s l n x
        · rw [z, up_e, fu_e]
        · rw [up_n (Or.inr z), fu_n z, e12, up_c (by decide), f2 243 (by decide) (by decide), f1.c (a := 243) (by decide) (by decide)]
          refine g2 k hk ?_
          rcases hb with hb | hb
          · exact hb
          · have hb : (rwh s l n x).toNat = k := hb
            omega
      · have := sm_in (f := rWt s l n x) (V := (rn s l n x).1) (w := (rwh s l n x).toNat) (x := rtm s l n x - s 200 (rwh s l n x)) b7 n
        rw [eb, if_pos (by omega)] at this
        show s15 211 54 = smV (fu (rWt s l n x) (rwh s l n x) (rtm s l n x - s 200 (rwh s l n x))) ((rn s l n x).1 ||| 2 ^ (rwh s l n x).toNat) n
        rw [this, e15, up_n (by decide), e14, up_e]
      · have := mx_in (f := rWt s l n x) (V := (rn s l n x).1) (w := (rwh s l n x).toNat) (x := rtm s l n x - s 200 (rwh s l n x)) b7 (by omega) n
        rw [eb, if_pos (by omega)] at this
        show s15 211 55 = mxV (fu (rWt s l n x) (rwh s l n x) (rtm s l n x - s 200 (rwh s l n x))) ((rn s l n x).1 ||| 2 ^ (rwh s l n x).toNat) n
        rw [this, e15, up_e]
  have a4 : ag t s4 := by rw [e4, e3]; exact (ag.rf.up rfl).up rfl
  have z1 : ∀ m : Nat, smV (fun _ => 0) 0 m = 0 := by
    intro m
    induction m with
    | zero => rfl
    | succ m ih => rw [smV, ih, Nat.zero_testBit, if_neg (by decide)]; rfl
  have z2 : ∀ m : Nat, mxV (fun _ => 0) 0 m = 0 := by
    intro m
    induction m with
    | zero => rfl
    | succ m ih => rw [mxV, ih, Nat.zero_testBit, if_neg (by decide)]; rfl
  refine key n 0 (by omega) s4 ⟨a4.cM c, fun j j1 j2 => by omega, fun k hk hb => ?_, ?_, ?_⟩
  · have hb : (0 : Nat).testBit k = true := hb
    rw [Nat.zero_testBit] at hb
    cases hb
  · show s4 211 54 = smV (fun _ => 0) 0 n
    rw [z1, e4, up_n (by decide), e3, up_e]
  · show s4 211 55 = mxV (fun _ => 0) 0 n
    rw [z2, e4, up_e]
