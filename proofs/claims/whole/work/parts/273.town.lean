def nmok (B : Int → Int) (n S : Int) (nf : Int → Int) : Prop := ∀ k : Int, 0 ≤ k → k < S → kdf B n (nf k) = 1 ∧ (0 ≤ nf k ∧ nf k ≤ n) ∧ enf B n (nf k) - nf k ≤ 8
theorem t_kept {u : mm_M} {B : Int → Int} {n p : Int} (h : tx u B n) (hp : 0 ≤ p ∧ p ≤ n) (k : tkC u B n p) {post : Int → mm_M → Prop} (k1 : ¬ (∀ w : Nat, w < 5 → ¬ wdP B n p w) → post 1 u) (k0 : (∀ w : Nat, w < 5 → ¬ wdP B n p w) → post 0 u) : wp_X9_isKept 7 u post := by
  have yes : ∀ w : Nat, w < 5 → wdP B n p w → ((¬ n32 1 = 0 → post 1 u)) := fun w hw z _ => k1 (fun a => a w hw z)
  refine t_word (by decide) h hp k (fun z => ⟨yes 0 (by decide) z, fun y => absurd y (by decide)⟩) (fun z0 => ⟨fun y => absurd m_0 y, fun _ => ?_⟩)
  refine t_word (by decide) h hp k (fun z => ⟨yes 1 (by decide) z, fun y => absurd y (by decide)⟩) (fun z1 => ⟨fun y => absurd m_0 y, fun _ => ?_⟩)
  refine t_word (by decide) h hp k (fun z => ⟨yes 2 (by decide) z, fun y => absurd y (by decide)⟩) (fun z2 => ⟨fun y => absurd m_0 y, fun _ => ?_⟩)
  refine t_word (by decide) h hp k (fun z => ⟨yes 3 (by decide) z, fun y => absurd y (by decide)⟩) (fun z3 => ⟨fun y => absurd m_0 y, fun _ => ?_⟩)
  refine t_word (by decide) h hp k (fun z => ⟨fun y => absurd y (by decide), yes 4 (by decide) z⟩) (fun z4 => ⟨fun _ => k0 (fun w hw => ?_), fun y => absurd m_0 y⟩)
  have : w = 0 ∨ w = 1 ∨ w = 2 ∨ w = 3 ∨ w = 4 := by omega
  rcases this with e | e | e | e | e <;> subst e
  · exact z0
  · exact z1
  · exact z2
  · exact z3
  · exact z4
theorem t_taken {u : mm_M} {B : Int → Int} {n p S : Int} {nf : Int → Int} (h : tx u B n) (hp : 0 ≤ p ∧ p ≤ n) (k : tkC u B n p) (h1 : kdf B n p = 1) (h8 : enf B n p - p ≤ 8) (c5 : u 14 5 = S) (hS : 0 ≤ S ∧ S ≤ 5) (no : nmok B n S nf) (un : ∀ i : Int, 0 ≤ i → i < S → u 17 i = nf i ∧ u 18 i = enf B n (nf i)) {post : Int → mm_M → Prop} (k1 : ¬ (∀ i : Int, 0 ≤ i → i < S → wvl B n (nf i) ≠ wvl B n p) → post 1 u) (k0 : (∀ i : Int, 0 ≤ i → i < S → wvl B n (nf i) ≠ wvl B n p) → post 0 u) : wp_X9_isTaken 14 7 u post := by
  intro L2 h2
  have key : ∀ d x : Nat, (x : Int) + d = S → (∀ i : Int, 0 ≤ i → i < x → wvl B n (nf i) ≠ wvl B n p) → L2 x u := by
    intro d
    induction d with
    | zero =>
      intro x hx hb
      apply h2
      rw [c5, n32_id (x := S) (by omega) (by omega), n32_id (x := (x : Int)) (by omega) (by omega)]
      exact ⟨fun _ => k0 (fun i a b => hb i a (by omega)), fun z => by omega⟩
    | succ d ih =>
      intro x hx hb
      have nx := no x (by omega) (by omega)
      have ux := un x (by omega) (by omega)
      apply h2
      rw [c5, n32_id (x := S) (by omega) (by omega), n32_id (x := (x : Int)) (by omega) (by omega), show mm_rt 14 2 = 17 from rfl, show mm_rt 14 3 = 18 from rfl, ux.1, ux.2]
      refine ⟨fun z => by omega, fun _ => ⟨fun z => by omega, fun _ => ⟨⟨by omega, by omega⟩, ⟨by omega, by omega⟩, t_like h hp k h1 h8 nx.1 nx.2.1 nx.2.2 (fun z => ⟨fun y => absurd y (by decide), fun _ => k1 (fun a => a x (by omega) (by omega) z)⟩) (fun z => ⟨fun _ v ev => ?_, fun y => absurd m_0 y⟩)⟩⟩⟩
      rw [ev, show (x : Int) + 1 = ((x + 1 : Nat) : Int) by omega]
      refine ih (x + 1) (by omega) (fun i a b => ?_)
      by_cases q : i = x
      · rw [q]; exact z
      · exact hb i a (by omega)
  exact key S.toNat 0 (by omega) (fun i a b => by omega)
theorem t_name {u : mm_M} {B : Int → Int} {n S : Int} {nf : Int → Int} {j : Nat} (h : hnd u B n (j + 1) (-1)) (c5 : u 14 5 = S) (hS : 0 ≤ S ∧ S < 5) (no : nmok B n S nf) (un : ∀ i : Int, 0 ≤ i → i < S → u 17 i = nf i ∧ u 18 i = enf B n (nf i)) {post : mm_M → Prop} (k : ∀ u', (∀ c : Nat, c ≠ 7 → c ≠ 17 → c ≠ 18 → u' c = u c) → (∀ i : Int, i < 2 ∨ 6 < i → u' 7 i = u 7 i) → hnd u' B n (j + 1 + (0 + 1)) (faF B n (Ps B n S nf j) (j + 1) (0 + 1)) → (faF B n (Ps B n S nf j) (j + 1) (0 + 1) = -1 → u' 17 = fu (u 17) S (stf B n (j + 1)) ∧ u' 18 = fu (u 18) S (enf B n (stf B n (j + 1)))) → post u') : wp_X9_readName 14 7 u post := by
  have h' := h
  obtain ⟨t, f, tk, fr⟩ := h'
  have tk' := tk rfl
  have sr := st_r t.2.2 (j + 1)
  have hn := t.2.2.1
  have kr := kd_r (B := B) (n := n) (p := stf B n (j + 1))
  have er := en_r (B := B) sr.2.1
  have f0 : faF B n (Ps B n S nf j) (j + 1) 0 = -1 := rfl
  intro L27 L62 h27 h62
  have bad : ¬ nOk B n S nf (stf B n (j + 1)) → L62 u := by
    intro z
    have e := faF_n (B := B) (n := n) (P := Ps B n S nf j) (j := j + 1) (k := 0) f0 z
    apply h62
    refine t_ref h (fun u' g hu => k u' (fun c a _ _ => g.1 c a) g.2 ?_ (fun y => ?_))
    · rw [e]
      have := hu (j + 1 + (0 + 1))
      rw [if_pos rfl] at this
      exact this
    · rw [e] at y
      have y : stf B n (j + 1) = -1 := y
      omega
  rw [tk'.2.2.1, tk'.2.1, tk'.1, n32_id (x := kdf B n (stf B n (j + 1))) (by omega) (by omega), n32_id (x := enf B n (stf B n (j + 1)) - stf B n (j + 1)) (by omega) (by omega)]
  have l0 : ¬ nOk B n S nf (stf B n (j + 1)) → L27 0 u := by
    intro z
    apply h27
    intro v ev
    rw [ev]
    exact ⟨fun _ => bad z, fun y => absurd m_0 y⟩
  refine ⟨fun z => l0 (fun y => z y.1), fun z => ⟨fun y => l0 (fun w => by have := w.2.1; omega), fun y => ?_⟩⟩
  apply h27
  intro v ev
  rw [ev]
  refine ⟨fun w => absurd w (by decide), fun _ => ?_⟩
  refine t_kept t ⟨sr.1, sr.2.1⟩ tk' (fun w => ⟨fun _ => bad (fun q => w q.2.2.1), fun q => absurd q (by decide)⟩) (fun w => ⟨fun q => absurd m_0 q, fun _ => ?_⟩)
  refine t_taken t ⟨sr.1, sr.2.1⟩ tk' z (by omega) c5 ⟨hS.1, by omega⟩ no un (fun x => ⟨fun _ => bad (fun q => x q.2.2.2), fun q => absurd q (by decide)⟩) (fun x => ⟨fun q => absurd m_0 q, fun _ => ?_⟩)
  have e := faF_y (B := B) (n := n) (P := Ps B n S nf j) (j := j + 1) (k := 0) f0 (show nOk B n S nf (stf B n (j + 1)) from ⟨z, by omega, w, x⟩)
  rw [c5, n32_id (x := S) (by omega) (by omega), tk'.1, show mm_rt 14 2 = 17 from rfl, show mm_rt 14 3 = 18 from rfl]
  refine ⟨fun q => by omega, fun _ => ⟨fun _ => ⟨⟨by omega, by omega⟩, fun s6 e6 => ?_⟩, fun q => by omega⟩⟩
  have c56 : s6 14 5 = S := by rw [e6, up_c (by decide)]; exact c5
  have c26 : s6 7 2 = enf B n (stf B n (j + 1)) := by rw [e6, up_c (by decide)]; exact tk'.2.1
  rw [c56, c26]
  refine ⟨⟨by omega, by omega⟩, fun s7 e7 => ?_⟩
  have h7 := h.c (v := s7) (by rw [e7, up_c (by decide), e6, up_c (by decide)]) (by rw [e7, up_c (by decide), e6, up_c (by decide)])
  refine t_hadv h7 (fun u' g hu => k u' (fun c a b d => by rw [g.1 c a, e7, up_c d, e6, up_c b]) (fun i a => by rw [g.2 i a, e7, up_c (by decide), e6, up_c (by decide)]) (by rw [e]; exact hu) (fun _ => ⟨?_, ?_⟩))
  · rw [g.1 17 (by decide), e7, up_c (by decide), e6, up_f]
  · rw [g.1 18 (by decide), e7, up_f, e6, up_c (b := 18) (by decide)]
theorem faF_b {B : Int → Int} {n : Int} {P : Nat → Prop} {j k : Nat} (h : faF B n P j (k + 1) = -1) : faF B n P j k = -1 := by
  by_cases q : faF B n P j k = -1
  · exact q
  · have := faF_k q 1; rw [this] at h; exact absurd h q
theorem t_sort {u : mm_M} {B : Int → Int} {n S : Int} {nf : Int → Int} {j : Nat} (h : hnd u B n j (-1)) (c5 : u 14 5 = S) (hS : 0 ≤ S ∧ S < 5) (no : nmok B n S nf) (un : ∀ i : Int, 0 ≤ i → i < S → u 17 i = nf i ∧ u 18 i = enf B n (nf i)) {post : mm_M → Prop} (k : ∀ u', (∀ c : Nat, c ≠ 7 → c ≠ 14 → c ≠ 16 → c ≠ 17 → c ≠ 18 → u' c = u c) → (∀ i : Int, i < 2 ∨ 6 < i → u' 7 i = u 7 i) → hnd u' B n (j + 9) (faF B n (Ps B n S nf j) (j + 1) 8) → (∀ i : Int, i ≠ 5 → u' 14 i = u 14 i) → (faF B n (Ps B n S nf j) (j + 1) 8 = -1 → u' 14 5 = S + 1 ∧ u' 17 = fu (u 17) S (stf B n (j + 1)) ∧ u' 18 = fu (u 18) S (enf B n (stf B n (j + 1))) ∧ u' 16 = fu (fu (fu (fu (fu (fu (u 16) (6 * S + 0) (nmf B n (stf B n (j + 1 + 1)))) (6 * S + 1) (nmf B n (stf B n (j + 1 + 2)))) (6 * S + 2) (nmf B n (stf B n (j + 1 + 3)))) (6 * S + 3) (nmf B n (stf B n (j + 1 + 4)))) (6 * S + 4) (nmf B n (stf B n (j + 1 + 5)))) (6 * S + 5) (nmf B n (stf B n (j + 1 + 6)))) → post u') : wp_X9_readSort 14 7 u post := by
  refine t_hadv h (fun u1 g1 h1 => ?_)
  have d1 : u1 14 = u 14 := g1.1 14 (by decide)
  refine t_name h1 (by rw [d1]; exact c5) hS no (fun i a b => by rw [g1.1 17 (by decide), g1.1 18 (by decide)]; exact un i a b) (fun u2 f2 o2 h2 n2 => ?_)
  have d2 : u2 14 = u 14 := by rw [f2 14 (by decide) (by decide) (by decide), d1]
  refine t_num (P := Ps B n S nf j) (by omega) (by rfl) h2 (fun u3 r3 g3 h3 v3 => ?_)
  have d3 : u3 14 = u 14 := by rw [g3.1 14 (by decide), d2]
  refine t_tellS (C := S) (by rw [d3]; exact c5) hS (by omega) (fun u4 f4 e4 => ?_)
  have h4 := h3.c (f4 7 (by decide)) (f4 8 (by decide))
  refine t_num (P := Ps B n S nf j) (by omega) (by rfl) h4 (fun u5 r5 g5 h5 v5 => ?_)
  have d5 : u5 14 = u 14 := by rw [g5.1 14 (by decide), f4 14 (by decide), d3]
  refine t_tellS (C := S) (by rw [d5]; exact c5) hS (by omega) (fun u6 f6 e6 => ?_)
  have h6 := h5.c (f6 7 (by decide)) (f6 8 (by decide))
  refine t_num (P := Ps B n S nf j) (by omega) (by rfl) h6 (fun u7 r7 g7' h7 v7 => ?_)
  have d7 : u7 14 = u 14 := by rw [g7'.1 14 (by decide), f6 14 (by decide), d5]
  refine t_tellS (C := S) (by rw [d7]; exact c5) hS (by omega) (fun u8 f8 e8 => ?_)
  have h8 := h7.c (f8 7 (by decide)) (f8 8 (by decide))
  refine t_num (P := Ps B n S nf j) (by omega) (by rfl) h8 (fun u9 r9 g9 h9 v9 => ?_)
  have d9 : u9 14 = u 14 := by rw [g9.1 14 (by decide), f8 14 (by decide), d7]
  refine t_tellS (C := S) (by rw [d9]; exact c5) hS (by omega) (fun ua fa ea => ?_)
  have ha := h9.c (fa 7 (by decide)) (fa 8 (by decide))
  refine t_num (P := Ps B n S nf j) (by omega) (by rfl) ha (fun ub rb gb hb vb => ?_)
  have db : ub 14 = u 14 := by rw [gb.1 14 (by decide), fa 14 (by decide), d9]
  refine t_tellS (C := S) (by rw [db]; exact c5) hS (by omega) (fun uc fc ec => ?_)
  have hc := hb.c (fc 7 (by decide)) (fc 8 (by decide))
  refine t_num (P := Ps B n S nf j) (by omega) (by rfl) hc (fun ud rd gd hd vd => ?_)
  have dd : ud 14 = u 14 := by rw [gd.1 14 (by decide), fc 14 (by decide), db]
  refine t_tellS (C := S) (by rw [dd]; exact c5) hS (by omega) (fun ue fe ee => ?_)
  have he := hd.c (fe 7 (by decide)) (fe 8 (by decide))
  refine t_sig (P := Ps B n S nf j) (by omega) (by rfl) he (fun uf rf gf hf vf => ?_)
  have df : uf 14 = u 14 := by rw [gf.1 14 (by decide), fe 14 (by decide), dd]
  have oth : ∀ c : Nat, c ≠ 7 → c ≠ 16 → c ≠ 17 → c ≠ 18 → uf c = u c := fun c a b d e => by rw [gf.1 c a, fe c b, gd.1 c a, fc c b, gb.1 c a, fa c b, g9.1 c a, f8 c b, g7'.1 c a, f6 c b, g5.1 c a, f4 c b, g3.1 c a, f2 c a d e, g1.1 c a]
  have o7 : ∀ i : Int, i < 2 ∨ 6 < i → uf 7 i = u 7 i := fun i a => by rw [gf.2 i a, fe 7 (by decide), gd.2 i a, fc 7 (by decide), gb.2 i a, fa 7 (by decide), g9.2 i a, f8 7 (by decide), g7'.2 i a, f6 7 (by decide), g5.2 i a, f4 7 (by decide), g3.2 i a, o2 i a, g1.2 i a]
  have o17 : ∀ c : Nat, c ≠ 7 → c ≠ 16 → uf c = u2 c := fun c a b => by rw [gf.1 c a, fe c b, gd.1 c a, fc c b, gb.1 c a, fa c b, g9.1 c a, f8 c b, g7'.1 c a, f6 c b, g5.1 c a, f4 c b, g3.1 c a]
  have all : faF B n (Ps B n S nf j) (j + 1) 8 = -1 → uf 17 = fu (u 17) S (stf B n (j + 1)) ∧ uf 18 = fu (u 18) S (enf B n (stf B n (j + 1))) ∧ uf 16 = fu (fu (fu (fu (fu (fu (u 16) (6 * S + 0) (nmf B n (stf B n (j + 1 + 1)))) (6 * S + 1) (nmf B n (stf B n (j + 1 + 2)))) (6 * S + 2) (nmf B n (stf B n (j + 1 + 3)))) (6 * S + 3) (nmf B n (stf B n (j + 1 + 4)))) (6 * S + 4) (nmf B n (stf B n (j + 1 + 5)))) (6 * S + 5) (nmf B n (stf B n (j + 1 + 6))) := by
    intro z
    have y7 := faF_b z
    have y6 := faF_b y7
    have y5 := faF_b y6
    have y4 := faF_b y5
    have y3 := faF_b y4
    have y2 := faF_b y3
    have y1 := faF_b y2
    have q := n2 y1
    refine ⟨by rw [o17 17 (by decide) (by decide), q.1, g1.1 17 (by decide)], by rw [o17 18 (by decide) (by decide), q.2, g1.1 18 (by decide)], ?_⟩
    rw [gf.1 16 (by decide), ee, gd.1 16 (by decide), ec, gb.1 16 (by decide), ea, g9.1 16 (by decide), e8, g7'.1 16 (by decide), e6, g5.1 16 (by decide), e4, g3.1 16 (by decide), f2 16 (by decide) (by decide) (by decide), g1.1 16 (by decide), vd y7, vb y6, v9 y5, v7 y4, v5 y3, v3 y2]
  have hf : hnd uf B n (j + 9) (faF B n (Ps B n S nf j) (j + 1) 8) := by rw [show j + 9 = j + 1 + (7 + 1) by omega]; exact hf
  rcases vf with ⟨y, e⟩ | ⟨y, e⟩
  · rw [e]
    refine ⟨fun z => absurd z (by decide), fun _ s17 e17 => ?_⟩
    rw [df, c5] at e17
    refine k s17 (fun c a b d e f => by rw [e17, up_c b]; exact oth c a d e f) (fun i a => by rw [e17, up_c (by decide)]; exact o7 i a) (hf.c (by rw [e17, up_c (by decide)]) (by rw [e17, up_c (by decide)])) (fun i a => by rw [e17, up_n (by omega), df]) (fun z => ⟨by rw [e17, up_e], ?_⟩)
    have q := all z
    rw [e17, up_c (by decide), up_c (by decide), up_c (by decide)]
    exact q
  · rw [e]
    exact ⟨fun _ => k uf (fun c a b d e f => oth c a d e f) o7 hf (fun i a => by rw [df]) (fun z => absurd z y), fun z => absurd m_0 z⟩
/-! the whole town -/
abbrev Tw : Type := Nat × Int × Int × Int × Int × Int × Int × (Int → Int) × (Int → Int) × (Int → Int)
def zj (Z : Tw) : Nat := Z.1
def zC (Z : Tw) : Int := Z.2.1
def zS (Z : Tw) : Int := Z.2.2.1
def zcl (Z : Tw) : Int := Z.2.2.2.1
def zfe (Z : Tw) : Int := Z.2.2.2.2.1
def zbo (Z : Tw) : Int := Z.2.2.2.2.2.1
def zfa (Z : Tw) : Int := Z.2.2.2.2.2.2.1
def zcf (Z : Tw) : Int → Int := Z.2.2.2.2.2.2.2.1
def zsf (Z : Tw) : Int → Int := Z.2.2.2.2.2.2.2.2.1
def znf (Z : Tw) : Int → Int := Z.2.2.2.2.2.2.2.2.2
def lnC (B : Int → Int) (n : Int) (Z : Tw) : Int → Int := fu (fu (fu (zcf Z) (3 * zC Z + 0) (nmf B n (stf B n (zj Z + 1 + 0)))) (3 * zC Z + 1) (nmf B n (stf B n (zj Z + 1 + 1)))) (3 * zC Z + 2) (nmf B n (stf B n (zj Z + 1 + 2)))
def lnS (B : Int → Int) (n : Int) (Z : Tw) : Int → Int := fu (fu (fu (fu (fu (fu (zsf Z) (6 * zS Z + 0) (nmf B n (stf B n (zj Z + 1 + 1)))) (6 * zS Z + 1) (nmf B n (stf B n (zj Z + 1 + 2)))) (6 * zS Z + 2) (nmf B n (stf B n (zj Z + 1 + 3)))) (6 * zS Z + 3) (nmf B n (stf B n (zj Z + 1 + 4)))) (6 * zS Z + 4) (nmf B n (stf B n (zj Z + 1 + 5)))) (6 * zS Z + 5) (nmf B n (stf B n (zj Z + 1 + 6)))
noncomputable def tli (B : Int → Int) (n : Int) (Z : Tw) : Tw :=
  cif (zfa Z ≠ -1 ∨ kdf B n (stf B n (zj Z)) = 0) Z
  (cif (wdP B n (stf B n (zj Z)) 0 ∧ zC Z < 3) (zj Z + 5, zC Z + 1, zS Z, zcl Z, zfe Z, zbo Z, faF B n (Pc B n (zj Z)) (zj Z + 1) 4, lnC B n Z, zsf Z, znf Z)
  (cif (wdP B n (stf B n (zj Z)) 1 ∧ zS Z < 5) (zj Z + 9, zC Z, zS Z + 1, zcl Z, zfe Z, zbo Z, faF B n (Ps B n (zS Z) (znf Z) (zj Z)) (zj Z + 1) 8, zcf Z, lnS B n Z, fu (znf Z) (zS Z) (stf B n (zj Z + 1)))
  (cif (wdP B n (stf B n (zj Z)) 2 ∧ zcl Z = -1) (zj Z + 3, zC Z, zS Z, nmf B n (stf B n (zj Z + 1 + 0)), zfe Z, zbo Z, faF B n (Po B n 10 240 (zj Z)) (zj Z + 1) 2, zcf Z, zsf Z, znf Z)
  (cif (wdP B n (stf B n (zj Z)) 3 ∧ zfe Z = -1) (zj Z + 3, zC Z, zS Z, zcl Z, nmf B n (stf B n (zj Z + 1 + 0)), zbo Z, faF B n (Po B n 0 99 (zj Z)) (zj Z + 1) 2, zcf Z, zsf Z, znf Z)
  (cif (wdP B n (stf B n (zj Z)) 4 ∧ zbo Z = -1) (zj Z + 3, zC Z, zS Z, zcl Z, zfe Z, nmf B n (stf B n (zj Z + 1 + 0)), faF B n (Po B n 0 9 (zj Z)) (zj Z + 1) 2, zcf Z, zsf Z, znf Z)
  (zj Z, zC Z, zS Z, zcl Z, zfe Z, zbo Z, stf B n (zj Z), zcf Z, zsf Z, znf Z))))))
noncomputable def tre (B : Int → Int) (n : Int) : Nat → Tw
  | 0 => (0, 0, 0, -1, -1, -1, -1, fun _ => 0, fun _ => 0, fun _ => 0)
  | k + 1 => tli B n (tre B n k)
/-- what a sound reading holds -/
def zok (B : Int → Int) (n : Int) (Z : Tw) : Prop := (0 ≤ zC Z ∧ zC Z ≤ 3) ∧ (0 ≤ zS Z ∧ zS Z ≤ 5) ∧ (zcl Z = -1 ∨ 10 ≤ zcl Z ∧ zcl Z ≤ 240) ∧ (-1 ≤ zfe Z ∧ zfe Z ≤ 99) ∧ (-1 ≤ zbo Z ∧ zbo Z ≤ 9) ∧ nmok B n (zS Z) (znf Z) ∧
  (∀ c : Int, 0 ≤ c → c < zC Z → 0 ≤ zcf Z (3 * c) ∧ zcf Z (3 * c) ≤ 8 ∧ 1 ≤ zcf Z (3 * c + 1) ∧ zcf Z (3 * c + 1) ≤ 9 ∧ 0 ≤ zcf Z (3 * c + 2) ∧ zcf Z (3 * c + 2) ≤ 99) ∧
  (∀ c : Int, 0 ≤ c → c < zS Z → 0 ≤ zsf Z (6 * c) ∧ zsf Z (6 * c) ≤ 16 ∧ 0 ≤ zsf Z (6 * c + 1) ∧ zsf Z (6 * c + 1) ≤ 99 ∧ 1 ≤ zsf Z (6 * c + 2) ∧ zsf Z (6 * c + 2) ≤ 240 ∧ 0 ≤ zsf Z (6 * c + 3) ∧ zsf Z (6 * c + 3) ≤ 9 ∧ 0 ≤ zsf Z (6 * c + 4) ∧ zsf Z (6 * c + 4) ≤ 9 ∧ 0 ≤ zsf Z (6 * c + 5) ∧ zsf Z (6 * c + 5) ≤ 2)
theorem tli_ok {B : Int → Int} {n : Int} (hb : bok B n) {Z : Tw} (h : zfa Z = -1 → zok B n Z) : zfa (tli B n Z) = -1 → zok B n (tli B n Z) := by
  unfold tli
  by_cases q0 : zfa Z ≠ -1 ∨ kdf B n (stf B n (zj Z)) = 0
  · rw [cif_p q0]; exact h
  rw [cif_n q0]
  have z1 : zfa Z = -1 := by
    by_cases z : zfa Z = -1
    · exact z
    · exact absurd (Or.inl z) q0
  obtain ⟨o1, o2, o3, o4, o5, o6, o7, o8⟩ := h z1
  by_cases q1 : wdP B n (stf B n (zj Z)) 0 ∧ zC Z < 3
  · rw [cif_p q1]
    intro e
    have P := faF_a hb 4 e
    have p0 : okN B n 0 8 (stf B n (zj Z + 1 + 0)) := P 0 (by omega)
    have p1 : okN B n 1 9 (stf B n (zj Z + 1 + 1)) := P 1 (by omega)
    have p2 : okN B n 0 99 (stf B n (zj Z + 1 + 2)) := P 2 (by omega)
    refine ⟨⟨by show 0 ≤ zC Z + 1; omega, by show zC Z + 1 ≤ 3; omega⟩, o2, o3, o4, o5, o6, fun c c1 c2 => ?_, o8⟩
    have c2 : c < zC Z + 1 := c2
    show 0 ≤ lnC B n Z (3 * c) ∧ lnC B n Z (3 * c) ≤ 8 ∧ 1 ≤ lnC B n Z (3 * c + 1) ∧ lnC B n Z (3 * c + 1) ≤ 9 ∧ 0 ≤ lnC B n Z (3 * c + 2) ∧ lnC B n Z (3 * c + 2) ≤ 99
    unfold lnC
    by_cases w : c = zC Z
    · rw [w]
      have e0 : fu (fu (fu (zcf Z) (3 * zC Z + 0) (nmf B n (stf B n (zj Z + 1 + 0)))) (3 * zC Z + 1) (nmf B n (stf B n (zj Z + 1 + 1)))) (3 * zC Z + 2) (nmf B n (stf B n (zj Z + 1 + 2))) (3 * zC Z) = nmf B n (stf B n (zj Z + 1 + 0)) := by
        rw [fu_n (by omega), fu_n (by omega), show 3 * zC Z + 0 = 3 * zC Z by omega, fu_e]
      have e1 : fu (fu (fu (zcf Z) (3 * zC Z + 0) (nmf B n (stf B n (zj Z + 1 + 0)))) (3 * zC Z + 1) (nmf B n (stf B n (zj Z + 1 + 1)))) (3 * zC Z + 2) (nmf B n (stf B n (zj Z + 1 + 2))) (3 * zC Z + 1) = nmf B n (stf B n (zj Z + 1 + 1)) := by
        rw [fu_n (by omega), fu_e]
      rw [e0, e1, fu_e]
      exact ⟨p0.2.1, p0.2.2, p1.2.1, p1.2.2, p2.2.1, p2.2.2⟩
    · rw [fu_n (by omega), fu_n (by omega), fu_n (by omega), fu_n (by omega), fu_n (by omega), fu_n (by omega), fu_n (by omega), fu_n (by omega), fu_n (by omega)]
      exact o7 c c1 (by omega)
  rw [cif_n q1]
  by_cases q2 : wdP B n (stf B n (zj Z)) 1 ∧ zS Z < 5
  · rw [cif_p q2]
    intro e
    have P := faF_a hb 8 e
    have p0 : nOk B n (zS Z) (znf Z) (stf B n (zj Z + 1)) := P 0 (by omega)
    have p1 : okN B n 0 16 (stf B n (zj Z + 1 + 1)) := P 1 (by omega)
    have p2 : okN B n 0 99 (stf B n (zj Z + 1 + 2)) := P 2 (by omega)
    have p3 : okN B n 1 240 (stf B n (zj Z + 1 + 3)) := P 3 (by omega)
    have p4 : okN B n 0 9 (stf B n (zj Z + 1 + 4)) := P 4 (by omega)
    have p5 : okN B n 0 9 (stf B n (zj Z + 1 + 5)) := P 5 (by omega)
    have p6 : okN B n 0 2 (stf B n (zj Z + 1 + 6)) := P 6 (by omega)
    have sr := st_r hb (zj Z + 1)
    refine ⟨o1, ⟨by show 0 ≤ zS Z + 1; omega, by show zS Z + 1 ≤ 5; omega⟩, o3, o4, o5, fun k k1 k2 => ?_, o7, fun c c1 c2 => ?_⟩
    · have k2 : k < zS Z + 1 := k2
      show kdf B n (fu (znf Z) (zS Z) (stf B n (zj Z + 1)) k) = 1 ∧ (0 ≤ fu (znf Z) (zS Z) (stf B n (zj Z + 1)) k ∧ fu (znf Z) (zS Z) (stf B n (zj Z + 1)) k ≤ n) ∧ enf B n (fu (znf Z) (zS Z) (stf B n (zj Z + 1)) k) - fu (znf Z) (zS Z) (stf B n (zj Z + 1)) k ≤ 8
      by_cases w : k = zS Z
      · rw [w, fu_e]; exact ⟨p0.1, ⟨sr.1, sr.2.1⟩, p0.2.1⟩
      · rw [fu_n w]; exact o6 k k1 (by omega)
    · have c2 : c < zS Z + 1 := c2
      show 0 ≤ lnS B n Z (6 * c) ∧ lnS B n Z (6 * c) ≤ 16 ∧ 0 ≤ lnS B n Z (6 * c + 1) ∧ lnS B n Z (6 * c + 1) ≤ 99 ∧ 1 ≤ lnS B n Z (6 * c + 2) ∧ lnS B n Z (6 * c + 2) ≤ 240 ∧ 0 ≤ lnS B n Z (6 * c + 3) ∧ lnS B n Z (6 * c + 3) ≤ 9 ∧ 0 ≤ lnS B n Z (6 * c + 4) ∧ lnS B n Z (6 * c + 4) ≤ 9 ∧ 0 ≤ lnS B n Z (6 * c + 5) ∧ lnS B n Z (6 * c + 5) ≤ 2
      by_cases w : c = zS Z
      · have e0 : lnS B n Z (6 * c) = nmf B n (stf B n (zj Z + 1 + 1)) := by unfold lnS; rw [w, fu_n (by omega), fu_n (by omega), fu_n (by omega), fu_n (by omega), fu_n (by omega), show 6 * zS Z + 0 = 6 * zS Z by omega, fu_e]
        have e1 : lnS B n Z (6 * c + 1) = nmf B n (stf B n (zj Z + 1 + 2)) := by unfold lnS; rw [w, fu_n (by omega), fu_n (by omega), fu_n (by omega), fu_n (by omega), fu_e]
        have e2 : lnS B n Z (6 * c + 2) = nmf B n (stf B n (zj Z + 1 + 3)) := by unfold lnS; rw [w, fu_n (by omega), fu_n (by omega), fu_n (by omega), fu_e]
        have e3 : lnS B n Z (6 * c + 3) = nmf B n (stf B n (zj Z + 1 + 4)) := by unfold lnS; rw [w, fu_n (by omega), fu_n (by omega), fu_e]
        have e4 : lnS B n Z (6 * c + 4) = nmf B n (stf B n (zj Z + 1 + 5)) := by unfold lnS; rw [w, fu_n (by omega), fu_e]
        have e5 : lnS B n Z (6 * c + 5) = nmf B n (stf B n (zj Z + 1 + 6)) := by unfold lnS; rw [w, fu_e]
        rw [e0, e1, e2, e3, e4, e5]
        exact ⟨p1.2.1, p1.2.2, p2.2.1, p2.2.2, p3.2.1, p3.2.2, p4.2.1, p4.2.2, p5.2.1, p5.2.2, p6.2.1, p6.2.2⟩
      · have ee : ∀ i : Int, 0 ≤ i → i < 6 → lnS B n Z (6 * c + i) = zsf Z (6 * c + i) := fun i a b => by unfold lnS; rw [fu_n (by omega), fu_n (by omega), fu_n (by omega), fu_n (by omega), fu_n (by omega), fu_n (by omega)]
        have e0 := ee 0 (by omega) (by omega)
        rw [show 6 * c + 0 = 6 * c by omega] at e0
        rw [e0, ee 1 (by omega) (by omega), ee 2 (by omega) (by omega), ee 3 (by omega) (by omega), ee 4 (by omega) (by omega), ee 5 (by omega) (by omega)]
        exact o8 c c1 (by omega)
  rw [cif_n q2]
  by_cases q3 : wdP B n (stf B n (zj Z)) 2 ∧ zcl Z = -1
  · rw [cif_p q3]
    intro e
    have p0 : okN B n 10 240 (stf B n (zj Z + 1 + 0)) := faF_a hb 2 e 0 (by omega)
    exact ⟨o1, o2, Or.inr ⟨p0.2.1, p0.2.2⟩, o4, o5, o6, o7, o8⟩
  rw [cif_n q3]
  by_cases q4 : wdP B n (stf B n (zj Z)) 3 ∧ zfe Z = -1
  · rw [cif_p q4]
    intro e
    have p0 : okN B n 0 99 (stf B n (zj Z + 1 + 0)) := faF_a hb 2 e 0 (by omega)
    have p1 := p0.2.1
    exact ⟨o1, o2, o3, ⟨by show -1 ≤ nmf B n (stf B n (zj Z + 1 + 0)); omega, p0.2.2⟩, o5, o6, o7, o8⟩
  rw [cif_n q4]
  by_cases q5 : wdP B n (stf B n (zj Z)) 4 ∧ zbo Z = -1
  · rw [cif_p q5]
    intro e
    have p0 : okN B n 0 9 (stf B n (zj Z + 1 + 0)) := faF_a hb 2 e 0 (by omega)
    have p1 := p0.2.1
    exact ⟨o1, o2, o3, o4, ⟨by show -1 ≤ nmf B n (stf B n (zj Z + 1 + 0)); omega, p0.2.2⟩, o6, o7, o8⟩
  rw [cif_n q5]
  intro e
  have e : stf B n (zj Z) = -1 := e
  have := st_r hb (zj Z)
  omega
