/-! words as numbers -/
def pk (f : Nat → Int) : Nat → Int
  | 0 => 0
  | k + 1 => pk f k * 256 + f k
theorem pk_c {f g : Nat → Int} : ∀ k : Nat, (∀ i, i < k → f i = g i) → pk f k = pk g k := by
  intro k
  induction k with
  | zero => intro _; rfl
  | succ k ih => intro h; rw [pk, pk, ih (fun i hi => h i (by omega)), h k (by omega)]
theorem pk_r {f : Nat → Int} : ∀ k : Nat, (∀ i, i < k → 1 ≤ f i ∧ f i ≤ 122) → 0 ≤ pk f k ∧ 2 * pk f k < 256 ^ k ∧ (0 < k → 0 < pk f k) := by
  intro k
  induction k with
  | zero => intro _; exact ⟨Int.le_refl 0, by rw [pk]; decide, fun h => by omega⟩
  | succ k ih =>
    intro h
    have a := ih (fun i hi => h i (by omega))
    have b := h k (by omega)
    rw [pk, Int.pow_succ]
    generalize (256 : Int) ^ k = w at a
    omega
theorem pk_i {f g : Nat → Int} : ∀ k j : Nat, (∀ i, i < k → 1 ≤ f i ∧ f i ≤ 122) → (∀ i, i < j → 1 ≤ g i ∧ g i ≤ 122) → pk f k = pk g j → k = j ∧ ∀ i, i < k → f i = g i := by
  intro k
  induction k with
  | zero =>
    intro j hf hg e
    have r := pk_r j hg
    rw [pk] at e
    refine ⟨?_, fun i hi => by omega⟩
    rcases Nat.eq_zero_or_pos j with z | z
    · omega
    · have := r.2.2 z; omega
  | succ k ih =>
    intro j hf hg e
    cases j with
    | zero =>
      have r := pk_r (k + 1) hf
      have := r.2.2 (by omega)
      rw [show pk g 0 = 0 from rfl] at e
      omega
    | succ j =>
      rw [pk, pk] at e
      have a := hf k (by omega)
      have b := hg j (by omega)
      have i := ih j (fun i hi => hf i (by omega)) (fun i hi => hg i (by omega)) (by omega)
      refine ⟨by omega, fun x hx => ?_⟩
      by_cases z : x = k
      · have : j = k := by omega
        subst this
        rw [z]; omega
      · exact i.2 x (by omega)
theorem p256 : ∀ k : Nat, k < 9 → (256 : Int) ^ k ≤ 18446744073709551616 ∧ (k < 8 → (256 : Int) ^ k ≤ 72057594037927936) := by decide +kernel
theorem lor8 {v b : Int} (hv : 0 ≤ v ∧ v < 36028797018963968) (hb : 0 ≤ b ∧ b < 256) : mm_lorL (mm_lshl v 8) (n32 b) = v * 256 + b := by
  have e8 : ((mm_I 8).toInt64 &&& 63) = 8 := by decide
  unfold mm_lorL mm_lshl
  rw [e8, n32_id (x := b) (by omega) (by omega)]
  have eA : mm_L (mm_L v <<< (8 : Int64)).toInt = mm_L v <<< (8 : Int64) := Int64.ofInt_toInt _
  rw [eA]
  have n1 : (mm_L v).toBitVec.toNat = v.toNat := by
    show (BitVec.ofInt 64 v).toNat = _
    rw [BitVec.toNat_ofInt]
    omega
  have n2 : (mm_L b).toBitVec.toNat = b.toNat := by
    show (BitVec.ofInt 64 b).toNat = _
    rw [BitVec.toNat_ofInt]
    omega
  have h : (mm_L v <<< (8 : Int64) ||| mm_L b).toBitVec.toNat = v.toNat * 256 + b.toNat := by
    rw [Int64.toBitVec_or, BitVec.toNat_or, n2, Int64.toBitVec_shiftLeft]
    have e : (8 : Int64).toBitVec.smod 64 = 8#64 := by decide
    rw [e, BitVec.shiftLeft_eq', BitVec.toNat_shiftLeft, n1]
    have e2 : (8#64).toNat = 8 := by decide
    rw [e2, Nat.shiftLeft_eq, Nat.mod_eq_of_lt (by omega)]
    have := Nat.shiftLeft_add_eq_or_of_lt (show b.toNat < 2 ^ 8 by omega) v.toNat
    rw [Nat.shiftLeft_eq] at this
    omega
  show (mm_L v <<< (8 : Int64) ||| mm_L b).toBitVec.toInt = _
  rw [BitVec.toInt_eq_toNat_of_lt (by rw [h]; omega), h]
  omega
theorem w_ok : ∀ w : Nat, w < mm_nS → mm_sl w ≤ 8 ∧ 0 < mm_sl w ∧ ∀ i : Nat, i < mm_sl w → 97 ≤ mm_byt w i ∧ mm_byt w i ≤ 122 := by decide +kernel
/-- the word w stands at p -/
def wdP (B : Int → Int) (n p : Int) (w : Nat) : Prop := kdf B n p = 1 ∧ enf B n p - p = mm_sl w ∧ ∀ i : Nat, i < mm_sl w → B (p + i) = mm_byt w i
theorem en_w {B : Int → Int} {n p : Int} (h : kdf B n p = 1) (hn : p ≤ n) : ∀ i, p ≤ i → i < enf B n p → 97 ≤ B i ∧ B i ≤ 122 := by
  unfold enf
  rw [if_neg (by omega), if_pos h]
  exact (lr_r (B := B) 500 p hn).2.2.1
theorem t_word {u : mm_M} {B : Int → Int} {n p : Int} {w : Nat} (hw : w < mm_nS) (h : tx u B n) (hp : 0 ≤ p ∧ p ≤ n) (k : tkC u B n p) {post : Int → mm_M → Prop} (k1 : wdP B n p w → post 1 u) (k0 : ¬ wdP B n p w → post 0 u) : wp_X8_wordIs 7 w u post := by
  obtain ⟨c3, c2, c4, c5⟩ := k
  have hn := h.2.2.1
  have er := en_r (B := B) hp.2
  have kr := kd_r (B := B) (n := n) (p := p)
  have wo := w_ok w hw
  intro L48 h48
  rw [c4, c3, c2, n32_id (x := kdf B n p) (by omega) (by omega), n32_id (x := enf B n p - p) (by omega) (by omega)]
  refine ⟨fun z => k0 (fun y => z y.1), fun z => ?_⟩
  unfold wp_J0_length_8abf5
  dsimp only
  rw [n32_id (x := (mm_sl w : Int)) (by omega) (by omega), c3, c2, n32_id (x := p) (by omega) (by omega), n32_id (x := enf B n p) (by omega) (by omega)]
  refine ⟨fun y => k0 (fun x => y x.2.1), fun y => ⟨fun x => by omega, fun _ => ⟨fun _ v ev => ?_, fun x => by omega⟩⟩⟩
  rw [ev]
  have key : ∀ d i : Nat, i + d = mm_sl w → (∀ j : Nat, j < i → B (p + j) = mm_byt w j) → L48 (p + i) u := by
    intro d
    induction d with
    | zero =>
      intro i hi hb
      apply h48
      rw [c2, n32_id (x := enf B n p) (by omega) (by omega), n32_id (x := p + (i : Int)) (by omega) (by omega)]
      refine ⟨fun _ => k1 ⟨z, y, fun j hj => hb j (by omega)⟩, fun x => by omega⟩
    | succ d ih =>
      intro i hi hb
      have bl := en_w z hp.2 (p + i) (by omega) (by omega)
      have wi := wo.2.2 i (by omega)
      apply h48
      rw [c2, c3, n32_id (x := enf B n p) (by omega) (by omega), n32_id (x := p + (i : Int)) (by omega) (by omega), show mm_rt 7 0 = 8 from rfl, h.1, show p + (i : Int) - p = (i : Int) by omega]
      refine ⟨fun x => by omega, fun _ => ⟨⟨by omega, by omega⟩, ⟨⟨by omega, by omega⟩, ?_⟩⟩⟩
      rw [show ((i : Int)).toNat = i by omega]
      dsimp only
      rw [n32_id (x := B (p + (i : Int))) (by omega) (by omega), n32_id (x := (mm_byt w i : Int)) (by omega) (by omega)]
      refine ⟨fun x v ev => ?_, fun x => k0 (fun k => x (k.2.2 i (by omega)))⟩
      rw [ev, show p + (i : Int) + 1 = p + ((i + 1 : Nat) : Int) by omega]
      refine ih (i + 1) (by omega) (fun j hj => ?_)
      by_cases q : j = i
      · rw [q]; exact x
      · exact hb j (by omega)
  have := key (mm_sl w) 0 (by omega) (fun j hj => by omega)
  rw [show p + ((0 : Nat) : Int) = p by omega] at this
  exact this
/-! the reference reads -/
def tx2 (u : mm_M) (B : Int → Int) (n : Int) : Prop := u 211 1 = n ∧ (∀ j, 0 ≤ j → j < n → u 212 j = B j ∧ B j ≤ 127 ∨ u 212 j = B j - 256 ∧ 128 ≤ B j) ∧ bok B n
def kmf (B : Int → Int) (n p : Int) : Int := if kdf B n p ≤ 2 then kdf B n p else if kdf B n p = 4 then 4 else 3
def wvl (B : Int → Int) (n p : Int) : Int := if enf B n p - p ≤ 8 then pk (fun i => B (p + i)) (enf B n p - p).toNat else 0
def tkM (u : mm_M) (B : Int → Int) (n p : Int) : Prop := u 211 4 = p ∧ u 211 2 = enf B n p ∧ u 211 3 = kmf B n p ∧ (kdf B n p = 1 → u 211 5 = wvl B n p) ∧ (kdf B n p = 2 → 0 ≤ u 211 5 ∧ u 211 5 ≤ 1000000 ∧ (u 211 5 ≤ 99999 ∧ u 211 5 = nmf B n p ∨ 99999 < u 211 5 ∧ nmf B n p = 100000)) ∧ (5 ≤ kdf B n p → u 211 5 = B p)
theorem u_let {u : mm_M} {b c : Int} (hb : b = c ∧ c ≤ 127 ∨ b = c - 256 ∧ 128 ≤ c) {post : Int → mm_M → Prop} (hc : 0 ≤ c ∧ c ≤ 255) (k1 : 97 ≤ c ∧ c ≤ 122 → post 1 u) (k0 : ¬ (97 ≤ c ∧ c ≤ 122) → post 0 u) : wp_X11_isLetter b u post := by
  unfold wp_X11_isLetter
  rw [n32_id (x := b) (by omega) (by omega)]
  exact ⟨fun z => k0 (by omega), fun z => ⟨fun y => k0 (by omega), fun y => k1 (by omega)⟩⟩
theorem u_dig {u : mm_M} {b c : Int} (hb : b = c ∧ c ≤ 127 ∨ b = c - 256 ∧ 128 ≤ c) {post : Int → mm_M → Prop} (hc : 0 ≤ c ∧ c ≤ 255) (k1 : 48 ≤ c ∧ c ≤ 57 → post 1 u) (k0 : ¬ (48 ≤ c ∧ c ≤ 57) → post 0 u) : wp_X11_isDigit b u post := by
  unfold wp_X11_isDigit
  rw [n32_id (x := b) (by omega) (by omega)]
  exact ⟨fun z => k0 (by omega), fun z => ⟨fun y => k0 (by omega), fun y => k1 (by omega)⟩⟩
theorem u_sgn {u : mm_M} {b c : Int} (hb : b = c ∧ c ≤ 127 ∨ b = c - 256 ∧ 128 ≤ c) {post : Int → mm_M → Prop} (hc : 0 ≤ c ∧ c ≤ 255) (k1 : (c = 40 ∨ c = 41 ∨ c = 42 ∨ c = 43 ∨ c = 45 ∨ c = 59 ∨ c = 60 ∨ c = 61) → post 1 u) (k0 : ¬ (c = 40 ∨ c = 41 ∨ c = 42 ∨ c = 43 ∨ c = 45 ∨ c = 59 ∨ c = 60 ∨ c = 61) → post 0 u) : wp_X11_isSignByte b u post := by
  unfold wp_X11_isSignByte
  rw [n32_id (x := b) (by omega) (by omega)]
  exact ⟨fun d => k1 (by omega), fun d1 => ⟨fun d => k1 (by omega), fun d2 => ⟨fun d => k1 (by omega), fun d3 => ⟨fun d => k1 (by omega), fun d4 => ⟨fun d => k1 (by omega), fun d5 => ⟨fun d => k1 (by omega), fun d6 => ⟨fun d => k1 (by omega), fun d7 => ⟨fun d => k0 (by omega), fun d => k1 (by omega)⟩⟩⟩⟩⟩⟩⟩⟩
set_option maxHeartbeats 6000000 in
theorem u_leads {s : mm_M} {B : Int → Int} {n e : Int} (h : tx2 s B n) (he : 0 ≤ e ∧ e ≤ n) (h2 : s 211 2 = e) {post : mm_M → Prop} (k : ∀ u, (∀ c : Nat, c ≠ 211 → u c = s c) → (∀ j : Int, j ≠ 2 → j ≠ 3 → j ≠ 4 → j ≠ 5 → u 211 j = s 211 j) → tkM u B n (sk B n 500 e) → post u) : wp_X11_leads 211 s post := by
  obtain ⟨t1, t2, tb⟩ := h
  have hn := tb.1
  intro L0 L52 L99 L174 L208 L313 h0 h52 h99 h174 h208 h313
  have sr := sk_r (B := B) 500 e he.2
  have by1 : ∀ {u : mm_M}, (∀ c : Nat, c ≠ 211 → u c = s c) → ∀ x, 0 ≤ x → x < n → (u 212 x = B x ∧ B x ≤ 127 ∨ u 212 x = B x - 256 ∧ 128 ≤ B x) ∧ 0 ≤ B x ∧ B x ≤ 255 := fun f x x0 xn => ⟨by rw [f 212 (by decide)]; exact t2 x x0 xn, tb.2 x x0 xn⟩
  have tail : ∀ u, (∀ c : Nat, c ≠ 211 → u c = s c) → (∀ j : Int, j ≠ 2 → u 211 j = s 211 j) → u 211 2 = sk B n 500 e → (sk B n 500 e < n → ¬ (B (sk B n 500 e) = 32 ∨ B (sk B n 500 e) = 10)) → L52 u := by
    intro u f1 f2 u2 nb
    generalize sk B n 500 e = p at sr u2 k nb
    apply h52
    intro s3 e3 s4 e4 s5 e5
    have g1 : ∀ c : Nat, c ≠ 211 → s5 c = s c := fun c hc => by rw [e5, up_c hc, e4, up_c hc, e3, up_c hc]; exact f1 c hc
    have g2 : ∀ j : Int, j ≠ 2 → j ≠ 3 → j ≠ 4 → j ≠ 5 → s5 211 j = s 211 j := fun j a b c d => by rw [e5, up_n (by omega), e4, up_n (by omega), e3, up_n (by omega)]; exact f2 j a
    have z2 : s5 211 2 = p := by rw [e5, up_n (by decide), e4, up_n (by decide), e3, up_n (by decide)]; exact u2
    have z3 : s5 211 3 = 0 := by rw [e5, up_e]
    have z4 : s5 211 4 = p := by rw [e5, up_n (by decide), e4, up_n (by decide), e3, up_e]; exact u2
    have z5 : s5 211 5 = 0 := by rw [e5, up_n (by decide), e4, up_e]
    have z1 : s5 211 1 = n := by rw [g2 1 (by decide) (by decide) (by decide) (by decide)]; exact t1
    rw [z2, z1, n32_id (x := p) (by omega) (by omega), n32_id (x := n) (by omega) (by omega), show mm_rt 211 0 = 212 from rfl]
    refine ⟨fun ne => ⟨⟨by omega, by omega⟩, fun v1 e1 => ?_⟩, fun eq => ?_⟩
    · have pn : p < n := by omega
      have bp := by1 g1 p (by omega) pn
      have nb := nb pn
      rw [e1]
      generalize hb : s5 212 p = b at bp
      have nbv : n32 b = b := n32_id (by omega) (by omega)
      have sign : ¬ (97 ≤ B p ∧ B p ≤ 122) → ¬ (48 ≤ B p ∧ B p ≤ 57) → ∀ q0 : Int, (q0 = if B p = 40 ∨ B p = 41 ∨ B p = 42 ∨ B p = 43 ∨ B p = 45 ∨ B p = 59 ∨ B p = 60 ∨ B p = 61 then 3 else 4) → L313 b q0 s5 := by
        intro n1 n2 q0 eq0
        have kk : kdf B n p = if B p = 40 ∨ B p = 41 ∨ B p = 42 ∨ B p = 43 ∨ B p = 45 ∨ B p = 59 ∨ B p = 60 ∨ B p = 61 then B p else 4 := by
          unfold kdf
          rw [if_pos pn, if_neg n1, if_neg n2, if_neg (by omega)]
        apply h313
        intro s13 e13 s14 e14 s15 e15
        have q2 : s14 211 2 = p := by rw [e14, up_n (by decide), e13, up_n (by decide)]; exact z2
        rw [q2] at e15
        rw [nbv] at e14
        refine k s15 (fun c hc => by rw [e15, up_c hc, e14, up_c hc, e13, up_c hc]; exact g1 c hc) (fun j a b c d => by rw [e15, up_n (by omega), e14, up_n (by omega), e13, up_n (by omega)]; exact g2 j a b c d) ⟨?_, ?_, ?_, fun y => ?_, fun y => ?_, fun y => ?_⟩
        · rw [e15, up_n (by decide), e14, up_n (by decide), e13, up_n (by decide)]; exact z4
        · rw [e15, up_e]
          unfold enf
          by_cases w : B p = 40 ∨ B p = 41 ∨ B p = 42 ∨ B p = 43 ∨ B p = 45 ∨ B p = 59 ∨ B p = 60 ∨ B p = 61
          · rw [if_pos w] at kk; rw [if_neg (by omega), if_neg (by omega), if_neg (by omega)]
          · rw [if_neg w] at kk; rw [if_neg (by omega), if_neg (by omega), if_neg (by omega)]
        · rw [e15, up_n (by decide), e14, up_n (by decide), e13, up_e, eq0]
          unfold kmf
          by_cases w : B p = 40 ∨ B p = 41 ∨ B p = 42 ∨ B p = 43 ∨ B p = 45 ∨ B p = 59 ∨ B p = 60 ∨ B p = 61
          · rw [if_pos w] at kk; rw [if_pos w, if_neg (by omega), if_neg (by omega)]
          · rw [if_neg w] at kk; rw [if_neg w, if_neg (by omega), if_pos kk]
        · have := kd_1.mp y; omega
        · have := kd_2.mp y; omega
        · rw [e15, up_n (by decide), e14, up_e]
          by_cases w : B p = 40 ∨ B p = 41 ∨ B p = 42 ∨ B p = 43 ∨ B p = 45 ∨ B p = 59 ∨ B p = 60 ∨ B p = 61
          · omega
          · rw [if_neg w] at kk; omega
      have digits : 48 ≤ B p ∧ B p ≤ 57 → L208 s5 := by
        intro yd
        have k2 := kd_2.mpr ⟨pn, yd⟩
        have fin : ∀ (x v r : Int) (w w2 : mm_M), enf B n p = x → nmf B n p = v → (0 ≤ r ∧ r ≤ 1000000 ∧ (r ≤ 99999 ∧ r = v ∨ 99999 < r ∧ v = 100000)) → (∀ c : Nat, c ≠ 211 → w c = s5 c) → (∀ j : Int, j ≠ 2 → j ≠ 5 → w 211 j = s5 211 j) → w 211 2 = x → w 211 5 = r → w2 = mm_up w 211 3 2 → post w2 := by
          intro x v r w w2 ex ev hr w1 w2' w3 w4 e2
          refine k w2 (fun c hc => by rw [e2, up_c hc, w1 c hc]; exact g1 c hc) (fun j a b c d => by rw [e2, up_n (by omega), w2' j a d]; exact g2 j a b c d) ⟨?_, ?_, ?_, fun y => by omega, fun _ => ?_, fun y => by omega⟩
          · rw [e2, up_n (by decide), w2' 4 (by decide) (by decide)]; exact z4
          · rw [e2, up_n (by decide), w3, ex]
          · rw [e2, up_e]; unfold kmf; rw [if_pos (by omega), k2]
          · rw [e2, up_n (by decide), w4, ev]; exact hr
        have key : ∀ (d : Nat) (x v r : Int), 0 ≤ x → x ≤ n → n ≤ x + d → 0 ≤ v → v ≤ 100000 → (0 ≤ r ∧ r ≤ 1000000 ∧ (r ≤ 99999 ∧ r = v ∨ 99999 < r ∧ v = 100000)) → dr B n 500 p = dr B n d x → dn B n 500 p 0 = dn B n d x v → ∀ w, (∀ c : Nat, c ≠ 211 → w c = s5 c) → (∀ j : Int, j ≠ 2 → j ≠ 5 → w 211 j = s5 211 j) → w 211 2 = x → w 211 5 = r → L208 w := by
          intro d
          induction d with
          | zero =>
            intro x v r x0 xn xd v0 v1 hr er en w w1 w2 w3 w4
            have w11 : w 211 1 = n := by rw [w2 1 (by decide) (by decide)]; exact z1
            apply h208
            rw [w11, w3, n32_id (x := n) (by omega) (by omega), n32_id (x := x) (by omega) (by omega)]
            refine ⟨fun _ s16 e16 => fin x v r w s16 ?_ ?_ hr w1 w2 w3 w4 e16, fun z => by omega⟩
            · unfold enf; rw [if_neg (by omega), if_neg (by omega), if_pos k2, er]; rfl
            · unfold nmf; rw [if_pos k2, en]; rfl
          | succ d ih =>
            intro x v r x0 xn xd v0 v1 hr er en w w1 w2 w3 w4
            have w11 : w 211 1 = n := by rw [w2 1 (by decide) (by decide)]; exact z1
            have stop : ¬ (x < n ∧ 48 ≤ B x ∧ B x ≤ 57) → ∀ s16 : mm_M, s16 = mm_up w 211 3 2 → post s16 := by
              intro z s16 e16
              rw [dr_n z] at er
              rw [dn_n z] at en
              refine fin x v r w s16 ?_ ?_ hr w1 w2 w3 w4 e16
              · unfold enf; rw [if_neg (by omega), if_neg (by omega), if_pos k2, er]
              · unfold nmf; rw [if_pos k2, en]
            apply h208
            rw [w11, w3, n32_id (x := n) (by omega) (by omega), n32_id (x := x) (by omega) (by omega), show mm_rt 211 0 = 212 from rfl]
            refine ⟨fun z => stop (by omega), fun z => ⟨⟨by omega, by omega⟩, ?_⟩⟩
            have bx := by1 (u := w) (fun c hc => (w1 c hc).trans (g1 c hc)) x x0 (by omega)
            generalize hbx : w 212 x = y at bx
            have ny : n32 y = y := n32_id (by omega) (by omega)
            refine u_dig bx.1 bx.2 (fun yd => ⟨fun d => absurd d (by decide), fun _ => ?_⟩) (fun nd => ⟨fun _ => stop (fun q => nd q.2), fun c => absurd m_0 c⟩)
            have kk : x < n ∧ 48 ≤ B x ∧ B x ≤ 57 := ⟨by omega, yd⟩
            rw [dr_y kk] at er
            rw [dn_y kk] at en
            have k9 : n64 99999 = 99999 := by decide
            rw [k9, w3, w4, hbx, n64_id (x := r) (by omega) (by omega), ny]
            refine ⟨fun q => ⟨⟨by omega, by omega⟩, fun s20 e20 s21 e21 => ?_⟩, fun q s22 e22 s23 e23 => ?_⟩
            · have q2 : s20 211 2 = x := by rw [e20, up_n (by decide)]; exact w3
              rw [q2] at e21
              refine ih (x + 1) _ (10 * r + y - 48) (by omega) (by omega) (by omega) ?_ ?_ ?_ er en s21 (fun c hc => by rw [e21, up_c hc, e20, up_c hc]; exact w1 c hc) (fun j a b => by rw [e21, up_n (by omega), e20, up_n (by omega)]; exact w2 j a b) (by rw [e21, up_e]) (by rw [e21, up_n (by decide), e20, up_e])
              · split <;> omega
              · split <;> omega
              · refine ⟨by omega, by omega, ?_⟩
                split <;> omega
            · have q2 : s22 211 2 = x := by rw [e22, up_n (by decide)]; exact w3
              rw [q2] at e23
              refine ih (x + 1) _ r (by omega) (by omega) (by omega) ?_ ?_ ?_ er en s23 (fun c hc => by rw [e23, up_c hc, e22, up_c hc]; exact w1 c hc) (fun j a b => by rw [e23, up_n (by omega), e22, up_n (by omega)]; exact w2 j a b) (by rw [e23, up_e]) (by rw [e23, up_n (by decide), e22, up_e])
              · split <;> omega
              · split <;> omega
              · refine ⟨by omega, by omega, ?_⟩
                rw [if_neg (by omega)]
                omega
        exact key 500 p 0 0 (by omega) sr.2.1 (by omega) (by omega) (by omega) (by omega) rfl rfl s5 (fun _ _ => rfl) (fun _ _ _ => rfl) z2 z5
      have letters : 97 ≤ B p ∧ B p ≤ 122 → L99 s5 := by
        intro yl
        have k1 := kd_1.mpr ⟨pn, yl⟩
        have fin : ∀ (x : Int) (w : mm_M), p ≤ x → x ≤ n → enf B n p = x → (∀ c : Nat, c ≠ 211 → w c = s5 c) → (∀ j : Int, j ≠ 2 → j ≠ 5 → w 211 j = s5 211 j) → w 211 2 = x → (x - p ≤ 8 → w 211 5 = pk (fun i => B (p + i)) (x - p).toNat) → L174 w := by
          intro x w xp xn ex w1 w2 w3 w4
          have w44 : w 211 4 = p := by rw [w2 4 (by decide) (by decide)]; exact z4
          have last : ∀ (y : mm_M) (r : Int), (∀ c : Nat, c ≠ 211 → y c = s c) → (∀ j : Int, j ≠ 2 → j ≠ 3 → j ≠ 4 → j ≠ 5 → y 211 j = s 211 j) → y 211 4 = p → y 211 2 = x → y 211 3 = 1 → y 211 5 = wvl B n p → post y := by
            intro y r y1 y2 y4 y22 y3 y5
            refine k y y1 y2 ⟨y4, by rw [y22, ex], ?_, fun _ => y5, fun z => by omega, fun z => by omega⟩
            rw [y3]; unfold kmf; rw [if_pos (by omega), k1]
          apply h174
          rw [w3, w44, n32_id (x := x - p) (by omega) (by omega)]
          refine ⟨fun z s29 e29 => last s29 0 (fun c hc => by rw [e29, up_c hc, w1 c hc]; exact g1 c hc) (fun j a b c d => by rw [e29, up_n (by omega), w2 j a d]; exact g2 j a b c d) (by rw [e29, up_n (by decide)]; exact w44) (by rw [e29, up_n (by decide)]; exact w3) (by rw [e29, up_e]) ?_, fun z s30 e30 s31 e31 => last s31 0 (fun c hc => by rw [e31, up_c hc, e30, up_c hc, w1 c hc]; exact g1 c hc) (fun j a b c d => by rw [e31, up_n (by omega), e30, up_n (by omega), w2 j a d]; exact g2 j a b c d) (by rw [e31, up_n (by decide), e30, up_n (by decide)]; exact w44) (by rw [e31, up_n (by decide), e30, up_n (by decide)]; exact w3) (by rw [e31, up_e]) ?_⟩
          · rw [e29, up_n (by decide), w4 z]
            unfold wvl
            rw [ex, if_pos z]
          · rw [e31, up_n (by decide), e30, up_e]
            unfold wvl
            rw [ex, if_neg z]
        have key : ∀ (d : Nat) (x : Int), p ≤ x → x ≤ n → n ≤ x + d → (∀ i, p ≤ i → i < x → 97 ≤ B i ∧ B i ≤ 122) → lr B n 500 p = lr B n d x → ∀ w, (∀ c : Nat, c ≠ 211 → w c = s5 c) → (∀ j : Int, j ≠ 2 → j ≠ 5 → w 211 j = s5 211 j) → w 211 2 = x → (x - p ≤ 8 → w 211 5 = pk (fun i => B (p + i)) (x - p).toNat) → L99 w := by
          intro d
          induction d with
          | zero =>
            intro x xp xn xd al er w w1 w2 w3 w4
            have w11 : w 211 1 = n := by rw [w2 1 (by decide) (by decide)]; exact z1
            apply h99
            rw [w11, w3, n32_id (x := n) (by omega) (by omega), n32_id (x := x) (by omega) (by omega)]
            refine ⟨fun _ => fin x w xp xn ?_ w1 w2 w3 w4, fun z => by omega⟩
            unfold enf; rw [if_neg (by omega), if_pos k1, er]; rfl
          | succ d ih =>
            intro x xp xn xd al er w w1 w2 w3 w4
            have w11 : w 211 1 = n := by rw [w2 1 (by decide) (by decide)]; exact z1
            have w44 : w 211 4 = p := by rw [w2 4 (by decide) (by decide)]; exact z4
            have stop : ¬ (x < n ∧ 97 ≤ B x ∧ B x ≤ 122) → L174 w := by
              intro z
              rw [lr_n z] at er
              refine fin x w xp xn ?_ w1 w2 w3 w4
              unfold enf; rw [if_neg (by omega), if_pos k1, er]
            apply h99
            rw [w11, w3, n32_id (x := n) (by omega) (by omega), n32_id (x := x) (by omega) (by omega), show mm_rt 211 0 = 212 from rfl]
            refine ⟨fun z => stop (by omega), fun z => ⟨⟨by omega, by omega⟩, ?_⟩⟩
            have bx := by1 (u := w) (fun c hc => (w1 c hc).trans (g1 c hc)) x (by omega) (by omega)
            generalize hbx : w 212 x = y at bx
            have ny : n32 y = y := n32_id (by omega) (by omega)
            refine u_let bx.1 bx.2 (fun yd => ⟨fun d => absurd d (by decide), fun _ => ?_⟩) (fun nd => ⟨fun _ => stop (fun q => nd q.2), fun c => absurd m_0 c⟩)
            have kk : x < n ∧ 97 ≤ B x ∧ B x ≤ 122 := ⟨by omega, yd⟩
            rw [lr_y kk] at er
            have al2 : ∀ i, p ≤ i → i < x + 1 → 97 ≤ B i ∧ B i ≤ 122 := fun i a b => by
              by_cases q : i = x
              · rw [q]; exact kk.2
              · exact al i a (by omega)
            rw [w3, w44, hbx, n32_id (x := x - p) (by omega) (by omega)]
            refine ⟨fun q s26 e26 => ?_, fun q => ⟨⟨by omega, by omega⟩, fun s27 e27 s28 e28 => ?_⟩⟩
            · exact ih (x + 1) (by omega) (by omega) (by omega) al2 er s26 (fun c hc => by rw [e26, up_c hc]; exact w1 c hc) (fun j a b => by rw [e26, up_n (by omega)]; exact w2 j a b) (by rw [e26, up_e]) (fun z => by omega)
            · have q2 : s27 211 2 = x := by rw [e27, up_n (by decide)]; exact w3
              rw [q2] at e28
              have fb : ∀ i : Nat, i < (x - p).toNat → 1 ≤ (fun i : Nat => B (p + i)) i ∧ (fun i : Nat => B (p + i)) i ≤ 122 := fun i hi => by
                have := al (p + i) (by omega) (by omega)
                show 1 ≤ B (p + i) ∧ B (p + i) ≤ 122
                omega
              have pr := pk_r (f := fun i => B (p + i)) (x - p).toNat fb
              have pw := (p256 (x - p).toNat (by omega)).2 (by omega)
              rw [w4 (by omega), lor8 ⟨pr.1, by omega⟩ (by omega)] at e27
              refine ih (x + 1) (by omega) (by omega) (by omega) al2 er s28 (fun c hc => by rw [e28, up_c hc, e27, up_c hc]; exact w1 c hc) (fun j a b => by rw [e28, up_n (by omega), e27, up_n (by omega)]; exact w2 j a b) (by rw [e28, up_e]) (fun z => ?_)
              rw [e28, up_n (by decide), e27, up_e, show (x + 1 - p).toNat = (x - p).toNat + 1 by omega, pk, show p + (((x - p).toNat : Nat) : Int) = x by omega]
              omega
        exact key 500 p (Int.le_refl p) sr.2.1 (by omega) (fun i a b => by omega) rfl s5 (fun _ _ => rfl) (fun _ _ _ => rfl) z2 (fun _ => by rw [z5, show (p - p).toNat = 0 by omega]; rfl)
      exact u_let bp.1 bp.2 (fun yl => ⟨fun y => absurd y (by decide), fun _ => letters yl⟩) (fun nl => ⟨fun _ => u_dig bp.1 bp.2 (fun yd => ⟨fun y => absurd y (by decide), fun _ => digits yd⟩) (fun nd => ⟨fun _ => u_sgn bp.1 bp.2 (fun ys => ⟨fun y => absurd y (by decide), fun _ => sign nl nd 3 (by rw [if_pos ys])⟩) (fun ns => ⟨fun _ => sign nl nd 4 (by rw [if_neg ns]), fun y => absurd m_0 y⟩), fun y => absurd m_0 y⟩), fun y => absurd m_0 y⟩)
    · have k0 : kdf B n p = 0 := kd_e.mpr (by omega)
      refine k s5 g1 g2 ⟨z4, ?_, ?_, fun y => by omega, fun y => by omega, fun y => by omega⟩
      · rw [z2]; unfold enf; rw [if_pos k0]
      · rw [z3]; unfold kmf; rw [if_pos (by omega), k0]
  have key : ∀ (d : Nat) (x : Int), 0 ≤ x → x ≤ n → n ≤ x + d → sk B n 500 e = sk B n d x → ∀ w, (∀ c : Nat, c ≠ 211 → w c = s c) → (∀ j : Int, j ≠ 2 → w 211 j = s 211 j) → w 211 2 = x → L0 w := by
    intro d
    induction d with
    | zero =>
      intro x x0 xn xd er w w1 w2 w3
      have w11 : w 211 1 = n := by rw [w2 1 (by decide)]; exact t1
      apply h0
      rw [w11, w3, n32_id (x := n) (by omega) (by omega), n32_id (x := x) (by omega) (by omega)]
      refine ⟨fun _ => tail w w1 w2 (by rw [er]; exact w3) (fun z => ?_), fun z => by omega⟩
      rw [er, show sk B n 0 x = x from rfl] at z
      omega
    | succ d ih =>
      intro x x0 xn xd er w w1 w2 w3
      have w11 : w 211 1 = n := by rw [w2 1 (by decide)]; exact t1
      have stop : ¬ (x < n ∧ (B x = 32 ∨ B x = 10)) → L52 w := fun z => tail w w1 w2 (by rw [er, sk_n z]; exact w3) (fun y => by rw [er, sk_n z] at y ⊢; exact fun q => z ⟨y, q⟩)
      apply h0
      rw [w11, w3, n32_id (x := n) (by omega) (by omega), n32_id (x := x) (by omega) (by omega), show mm_rt 211 0 = 212 from rfl]
      refine ⟨fun z => stop (by omega), fun z => ⟨⟨by omega, by omega⟩, ?_⟩⟩
      have bx := by1 (u := w) w1 x x0 (by omega)
      generalize hbx : w 212 x = y at bx
      rw [n32_id (x := y) (by omega) (by omega)]
      have go : (x < n ∧ (B x = 32 ∨ B x = 10)) → ∀ s1 : mm_M, s1 = mm_up w 211 2 (x + 1) → L0 s1 := by
        intro kk s1 e1
        rw [sk_y kk] at er
        exact ih (x + 1) (by omega) (by omega) (by omega) er s1 (fun c hc => by rw [e1, up_c hc]; exact w1 c hc) (fun j a => by rw [e1, up_n (by omega)]; exact w2 j a) (by rw [e1, up_e])
      exact ⟨fun q => go (by omega), fun q => ⟨⟨by omega, by omega⟩, fun q2 => stop (by omega), fun q2 => go (by omega)⟩⟩
  exact key 500 e he.1 he.2 (by omega) rfl s (fun _ _ => rfl) (fun _ _ => rfl) h2
theorem u_packed {u : mm_M} {w : Nat} (hw : w < mm_nS) {post : Int → mm_M → Prop} (k : post (pk (fun i => (mm_byt w i : Int)) (mm_sl w)) u) : wp_X11_packed w u post := by
  have wo := w_ok w hw
  intro L4 h4
  have key : ∀ d i : Nat, i + d = mm_sl w → L4 (pk (fun i => (mm_byt w i : Int)) i) i u := by
    intro d
    induction d with
    | zero =>
      intro i hi
      have : i = mm_sl w := by omega
      subst this
      apply h4
      unfold wp_J0_length_8abf5
      exact ⟨fun _ => k, fun z => absurd (Int.le_refl _) z⟩
    | succ d ih =>
      intro i hi
      have wi := wo.2.2 i (by omega)
      have pr := pk_r (f := fun i => (mm_byt w i : Int)) i (fun j hj => by have := wo.2.2 j (by omega); show 1 ≤ (mm_byt w j : Int) ∧ (mm_byt w j : Int) ≤ 122; omega)
      have pw := (p256 i (by omega)).2 (by omega)
      apply h4
      unfold wp_J0_length_8abf5
      dsimp only
      rw [n32_id (x := (mm_sl w : Int)) (by omega) (by omega), n32_id (x := (i : Int)) (by omega) (by omega)]
      refine ⟨fun z => by omega, fun _ => ⟨⟨by omega, by omega⟩, fun v1 e1 v3 e3 => ?_⟩⟩
      rw [show ((i : Int)).toNat = i by omega, lor8 ⟨pr.1, by omega⟩ (by omega)] at e1
      rw [e1, e3, show (i : Int) + 1 = ((i + 1 : Nat) : Int) by omega]
      exact ih (i + 1) (by omega)
  exact key (mm_sl w) 0 (by omega)
/-- a word of at most eight letters, as a number -/
theorem wv_r {B : Int → Int} {n p : Int} (h : kdf B n p = 1) (hp : 0 ≤ p ∧ p ≤ n) : 0 ≤ wvl B n p ∧ wvl B n p < 9223372036854775808 ∧ (wvl B n p = 0 ↔ 8 < enf B n p - p) := by
  have er := en_r (B := B) hp.2
  have ew := en_w h hp.2
  have pn := (kd_1.mp h).1
  unfold wvl
  by_cases z : enf B n p - p ≤ 8
  · rw [if_pos z]
    have pr := pk_r (f := fun i => B (p + i)) (enf B n p - p).toNat (fun j hj => by have := ew (p + j) (by omega) (by omega); show 1 ≤ B (p + j) ∧ B (p + j) ≤ 122; omega)
    have pw := (p256 (enf B n p - p).toNat (by omega)).1
    have := pr.2.2 (by omega)
    omega
  · rw [if_neg z]; omega
theorem wv_w {B : Int → Int} {n p : Int} {w : Nat} (hw : w < mm_nS) (h : kdf B n p = 1) (hp : 0 ≤ p ∧ p ≤ n) : wvl B n p = pk (fun i => (mm_byt w i : Int)) (mm_sl w) ↔ wdP B n p w := by
  have wo := w_ok w hw
  have er := en_r (B := B) hp.2
  have ew := en_w h hp.2
  have wb : ∀ j : Nat, j < mm_sl w → 1 ≤ (fun i : Nat => (mm_byt w i : Int)) j ∧ (fun i : Nat => (mm_byt w i : Int)) j ≤ 122 := fun j hj => by have := wo.2.2 j hj; show 1 ≤ (mm_byt w j : Int) ∧ (mm_byt w j : Int) ≤ 122; omega
  have bb : ∀ j : Nat, j < (enf B n p - p).toNat → 1 ≤ (fun i : Nat => B (p + i)) j ∧ (fun i : Nat => B (p + i)) j ≤ 122 := fun j hj => by have := ew (p + j) (by omega) (by omega); show 1 ≤ B (p + j) ∧ B (p + j) ≤ 122; omega
  constructor
  · intro e
    unfold wvl at e
    by_cases z : enf B n p - p ≤ 8
    · rw [if_pos z] at e
      have i := pk_i _ _ bb wb e
      exact ⟨h, by omega, fun j hj => i.2 j (by omega)⟩
    · rw [if_neg z] at e
      have := (pk_r (mm_sl w) wb).2.2 wo.2.1
      omega
  · intro d
    unfold wvl
    have d2 := d.2.1
    rw [if_pos (by omega), show (enf B n p - p).toNat = mm_sl w by omega]
    exact pk_c _ (fun i hi => d.2.2 i hi)
theorem u_word {u : mm_M} {B : Int → Int} {n p : Int} {w : Nat} (hw : w < mm_nS) (hp : 0 ≤ p ∧ p ≤ n) (hn : n ≤ 500) (k : tkM u B n p) {post : Int → mm_M → Prop} (k1 : wdP B n p w → post 1 u) (k0 : ¬ wdP B n p w → post 0 u) : wp_X11_isWord 211 w u post := by
  obtain ⟨c4, c2, c3, cw, cn, cs⟩ := k
  have kr := kd_r (B := B) (n := n) (p := p)
  have wo := w_ok w hw
  have pr := pk_r (f := fun i => (mm_byt w i : Int)) (mm_sl w) (fun j hj => by have := wo.2.2 j hj; show 1 ≤ (mm_byt w j : Int) ∧ (mm_byt w j : Int) ≤ 122; omega)
  have pw := (p256 (mm_sl w) (by omega)).1
  have km1 : kmf B n p = 1 ↔ kdf B n p = 1 := by
    unfold kmf
    by_cases z : kdf B n p ≤ 2
    · rw [if_pos z]
    · rw [if_neg z]
      split <;> omega
  have kmr : 0 ≤ kmf B n p ∧ kmf B n p ≤ 4 := by
    unfold kmf
    split
    · omega
    · split <;> omega
  unfold wp_X11_isWord
  rw [c3, n32_id (x := kmf B n p) (by omega) (by omega)]
  refine ⟨fun z => k0 (fun y => z (km1.mpr y.1)), fun z => ?_⟩
  have h1 := km1.mp z
  have wr := wv_r h1 hp
  have ww := wv_w (w := w) hw h1 hp
  refine u_packed hw ?_
  rw [cw h1, n64_id (x := wvl B n p) (by omega) (by omega), n64_id (x := pk (fun i => (mm_byt w i : Int)) (mm_sl w)) (by omega) (by omega)]
  exact ⟨fun y => k0 (fun x => y (ww.mpr x)), fun y => k1 (ww.mp y)⟩
