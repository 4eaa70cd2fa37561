/-! tokens of a text: bytes B, n of them -/
def sk (B : Int → Int) (n : Int) : Nat → Int → Int
  | 0, p => p
  | d + 1, p => if p < n ∧ (B p = 32 ∨ B p = 10) then sk B n d (p + 1) else p
def lr (B : Int → Int) (n : Int) : Nat → Int → Int
  | 0, p => p
  | d + 1, p => if p < n ∧ 97 ≤ B p ∧ B p ≤ 122 then lr B n d (p + 1) else p
def dr (B : Int → Int) (n : Int) : Nat → Int → Int
  | 0, p => p
  | d + 1, p => if p < n ∧ 48 ≤ B p ∧ B p ≤ 57 then dr B n d (p + 1) else p
def dn (B : Int → Int) (n : Int) : Nat → Int → Int → Int
  | 0, _, v => v
  | d + 1, p, v => if p < n ∧ 48 ≤ B p ∧ B p ≤ 57 then dn B n d (p + 1) (if v * 10 + B p - 48 < 100000 then v * 10 + B p - 48 else 100000) else v
theorem sk_y {B : Int → Int} {n p : Int} {d : Nat} (h : p < n ∧ (B p = 32 ∨ B p = 10)) : sk B n (d + 1) p = sk B n d (p + 1) := by rw [sk, if_pos h]
theorem sk_n {B : Int → Int} {n p : Int} {d : Nat} (h : ¬ (p < n ∧ (B p = 32 ∨ B p = 10))) : sk B n (d + 1) p = p := by rw [sk, if_neg h]
theorem lr_y {B : Int → Int} {n p : Int} {d : Nat} (h : p < n ∧ 97 ≤ B p ∧ B p ≤ 122) : lr B n (d + 1) p = lr B n d (p + 1) := by rw [lr, if_pos h]
theorem lr_n {B : Int → Int} {n p : Int} {d : Nat} (h : ¬ (p < n ∧ 97 ≤ B p ∧ B p ≤ 122)) : lr B n (d + 1) p = p := by rw [lr, if_neg h]
theorem dr_y {B : Int → Int} {n p : Int} {d : Nat} (h : p < n ∧ 48 ≤ B p ∧ B p ≤ 57) : dr B n (d + 1) p = dr B n d (p + 1) := by rw [dr, if_pos h]
theorem dr_n {B : Int → Int} {n p : Int} {d : Nat} (h : ¬ (p < n ∧ 48 ≤ B p ∧ B p ≤ 57)) : dr B n (d + 1) p = p := by rw [dr, if_neg h]
theorem dn_y {B : Int → Int} {n p v : Int} {d : Nat} (h : p < n ∧ 48 ≤ B p ∧ B p ≤ 57) : dn B n (d + 1) p v = dn B n d (p + 1) (if v * 10 + B p - 48 < 100000 then v * 10 + B p - 48 else 100000) := by rw [dn, if_pos h]
theorem dn_n {B : Int → Int} {n p v : Int} {d : Nat} (h : ¬ (p < n ∧ 48 ≤ B p ∧ B p ≤ 57)) : dn B n (d + 1) p v = v := by rw [dn, if_neg h]
def isS (b : Int) : Prop := b = 40 ∨ b = 41 ∨ b = 42 ∨ b = 43 ∨ b = 45 ∨ b = 59 ∨ b = 60 ∨ b = 61
def kdf (B : Int → Int) (n p : Int) : Int := if p < n then (if 97 ≤ B p ∧ B p ≤ 122 then 1 else if 48 ≤ B p ∧ B p ≤ 57 then 2 else if B p = 10 ∨ B p = 32 then 3 else if B p = 40 ∨ B p = 41 ∨ B p = 42 ∨ B p = 43 ∨ B p = 45 ∨ B p = 59 ∨ B p = 60 ∨ B p = 61 then B p else 4) else 0
def enf (B : Int → Int) (n p : Int) : Int := if kdf B n p = 0 then p else if kdf B n p = 1 then lr B n 500 p else if kdf B n p = 2 then dr B n 500 p else p + 1
def nmf (B : Int → Int) (n p : Int) : Int := if kdf B n p = 2 then dn B n 500 p 0 else 0
def stf (B : Int → Int) (n : Int) : Nat → Int
  | 0 => sk B n 500 0
  | j + 1 => sk B n 500 (enf B n (stf B n j))
def bok (B : Int → Int) (n : Int) : Prop := (0 ≤ n ∧ n ≤ 500) ∧ ∀ j, 0 ≤ j → j < n → 0 ≤ B j ∧ B j ≤ 255
theorem sk_r {B : Int → Int} {n : Int} : ∀ (d : Nat) (p : Int), p ≤ n → p ≤ sk B n d p ∧ sk B n d p ≤ n ∧ (n ≤ p + d → sk B n d p < n → ¬ (B (sk B n d p) = 32 ∨ B (sk B n d p) = 10)) := by
  intro d
  induction d with
  | zero => intro p h; exact ⟨Int.le_refl p, h, fun a b => by rw [sk] at b; omega⟩
  | succ d ih =>
    intro p h
    rw [sk]
    by_cases q : p < n ∧ (B p = 32 ∨ B p = 10)
    · rw [if_pos q]
      have := ih (p + 1) (by omega)
      exact ⟨by omega, this.2.1, fun a b => this.2.2 (by omega) b⟩
    · rw [if_neg q]
      exact ⟨Int.le_refl p, h, fun a b => fun z => q ⟨b, z⟩⟩
theorem lr_r {B : Int → Int} {n : Int} : ∀ (d : Nat) (p : Int), p ≤ n → p ≤ lr B n d p ∧ lr B n d p ≤ n ∧ (∀ i, p ≤ i → i < lr B n d p → 97 ≤ B i ∧ B i ≤ 122) ∧ (n ≤ p + d → lr B n d p < n → ¬ (97 ≤ B (lr B n d p) ∧ B (lr B n d p) ≤ 122)) := by
  intro d
  induction d with
  | zero => intro p h; exact ⟨Int.le_refl p, h, fun i a b => by rw [lr] at b; omega, fun a b => by rw [lr] at b; omega⟩
  | succ d ih =>
    intro p h
    rw [lr]
    by_cases q : p < n ∧ 97 ≤ B p ∧ B p ≤ 122
    · rw [if_pos q]
      have := ih (p + 1) (by omega)
      refine ⟨by omega, this.2.1, fun i a b => ?_, fun a b => this.2.2.2 (by omega) b⟩
      by_cases z : i = p
      · rw [z]; exact q.2
      · exact this.2.2.1 i (by omega) b
    · rw [if_neg q]
      exact ⟨Int.le_refl p, h, fun i a b => by omega, fun a b => fun z => q ⟨b, z⟩⟩
theorem dr_r {B : Int → Int} {n : Int} : ∀ (d : Nat) (p : Int), p ≤ n → p ≤ dr B n d p ∧ dr B n d p ≤ n := by
  intro d
  induction d with
  | zero => intro p h; exact ⟨Int.le_refl p, h⟩
  | succ d ih =>
    intro p h
    rw [dr]
    by_cases q : p < n ∧ 48 ≤ B p ∧ B p ≤ 57
    · rw [if_pos q]
      have := ih (p + 1) (by omega)
      omega
    · rw [if_neg q]; omega
theorem dn_r {B : Int → Int} {n : Int} : ∀ (d : Nat) (p v : Int), 0 ≤ v ∧ v ≤ 100000 → 0 ≤ dn B n d p v ∧ dn B n d p v ≤ 100000 := by
  intro d
  induction d with
  | zero => intro p v h; exact h
  | succ d ih =>
    intro p v h
    rw [dn]
    by_cases q : p < n ∧ 48 ≤ B p ∧ B p ≤ 57
    · rw [if_pos q]
      apply ih
      split <;> omega
    · rw [if_neg q]; exact h
theorem kd_e {B : Int → Int} {n p : Int} : kdf B n p = 0 ↔ ¬ p < n := by
  unfold kdf
  constructor
  · intro z h
    rw [if_pos h] at z
    split at z
    · omega
    · split at z
      · omega
      · split at z
        · omega
        · split at z <;> omega
  · intro z; rw [if_neg z]
theorem kd_1 {B : Int → Int} {n p : Int} : kdf B n p = 1 ↔ p < n ∧ 97 ≤ B p ∧ B p ≤ 122 := by
  unfold kdf
  constructor
  · intro z
    split at z
    · split at z
      · omega
      · split at z
        · omega
        · split at z
          · omega
          · split at z <;> omega
    · omega
  · intro z; rw [if_pos z.1, if_pos z.2]
theorem kd_2 {B : Int → Int} {n p : Int} : kdf B n p = 2 ↔ p < n ∧ 48 ≤ B p ∧ B p ≤ 57 := by
  unfold kdf
  constructor
  · intro z
    split at z
    · split at z
      · omega
      · split at z
        · omega
        · split at z
          · omega
          · split at z <;> omega
    · omega
  · intro z; rw [if_pos z.1, if_neg (by omega), if_pos z.2]
theorem kd_3 {B : Int → Int} {n p : Int} : kdf B n p = 3 ↔ p < n ∧ (B p = 32 ∨ B p = 10) := by
  unfold kdf
  constructor
  · intro z
    split at z
    · split at z
      · omega
      · split at z
        · omega
        · split at z
          · omega
          · split at z <;> omega
    · omega
  · intro z; rw [if_pos z.1, if_neg (by omega), if_neg (by omega), if_pos (by omega)]
theorem kd_s {B : Int → Int} {n p : Int} {c : Int} (hc : isS c) : kdf B n p = c ↔ p < n ∧ B p = c := by
  unfold isS at hc
  unfold kdf
  constructor
  · intro z
    split at z
    · split at z
      · omega
      · split at z
        · omega
        · split at z
          · omega
          · split at z <;> omega
    · omega
  · intro z; rw [if_pos z.1, if_neg (by omega), if_neg (by omega), if_neg (by omega), if_pos (by omega)]; exact z.2
theorem kd_r {B : Int → Int} {n p : Int} : 0 ≤ kdf B n p ∧ kdf B n p ≤ 61 := by
  unfold kdf
  split
  · split
    · omega
    · split
      · omega
      · split
        · omega
        · split <;> omega
  · omega
theorem en_r {B : Int → Int} {n p : Int} (hp : p ≤ n) : p ≤ enf B n p ∧ enf B n p ≤ n ∧ (p < n → p < enf B n p) := by
  have l := lr_r (B := B) 500 p hp
  have d := dr_r (B := B) 500 p hp
  unfold enf
  by_cases z : kdf B n p = 0
  · rw [if_pos z]
    have := kd_e.mp z
    omega
  · rw [if_neg z]
    have z := fun h => z (kd_e.mpr h)
    have pn : p < n := by
      by_cases w : p < n
      · exact w
      · exact absurd w z
    by_cases y : kdf B n p = 1
    · rw [if_pos y]
      have k := kd_1.mp y
      refine ⟨l.1, l.2.1, fun _ => ?_⟩
      rw [show (500 : Nat) = 499 + 1 from rfl, lr, if_pos k]
      have := lr_r (B := B) (n := n) 499 (p + 1) (by omega)
      omega
    · rw [if_neg y]
      by_cases x : kdf B n p = 2
      · rw [if_pos x]
        have k := kd_2.mp x
        refine ⟨d.1, d.2, fun _ => ?_⟩
        rw [show (500 : Nat) = 499 + 1 from rfl, dr, if_pos k]
        have := dr_r (B := B) (n := n) 499 (p + 1) (by omega)
        omega
      · rw [if_neg x]; omega
theorem st_r {B : Int → Int} {n : Int} (h : bok B n) : ∀ j : Nat, 0 ≤ stf B n j ∧ stf B n j ≤ n ∧ kdf B n (stf B n j) ≠ 3 := by
  have key : ∀ e, 0 ≤ e → e ≤ n → 0 ≤ sk B n 500 e ∧ sk B n 500 e ≤ n ∧ kdf B n (sk B n 500 e) ≠ 3 := by
    intro e e0 en
    have r := sk_r (B := B) 500 e en
    refine ⟨by omega, r.2.1, fun z => ?_⟩
    have := kd_3.mp z
    have hn := h.1.2
    exact r.2.2 (by omega) this.1 this.2
  intro j
  induction j with
  | zero => exact key 0 (Int.le_refl 0) h.1.1
  | succ j ih =>
    have e := en_r (B := B) ih.2.1
    exact key _ (by omega) e.2.1
theorem st_ge {B : Int → Int} {n : Int} (h : bok B n) : ∀ j : Nat, (j : Int) ≤ stf B n j ∨ ¬ stf B n j < n := by
  intro j
  induction j with
  | zero => left; exact (st_r h 0).1
  | succ j ih =>
    have r := st_r h j
    have e := en_r (B := B) r.2.1
    have s := sk_r (B := B) 500 _ e.2.1
    have d : stf B n (j + 1) = sk B n 500 (enf B n (stf B n j)) := rfl
    rcases ih with q | q
    · by_cases z : stf B n j < n
      · left
        have := e.2.2 z
        omega
      · right; omega
    · right; omega
theorem st_end {B : Int → Int} {n : Int} (h : bok B n) {j : Nat} (hj : 500 ≤ j) : kdf B n (stf B n j) = 0 := by
  have := st_ge h j
  have hn := h.1.2
  exact kd_e.mpr (by omega)
/-! the class reads -/
def tx (u : mm_M) (B : Int → Int) (n : Int) : Prop := u 8 = B ∧ u 7 1 = n ∧ bok B n
theorem t_kind {u : mm_M} {B : Int → Int} {n p : Int} (h : tx u B n) (hp : 0 ≤ p ∧ p ≤ 1000) {post : Int → mm_M → Prop} (k : post (kdf B n p) u) : wp_X8_kindAt 7 p u post := by
  obtain ⟨h8, h7, hb⟩ := h
  have hn := hb.1
  intro L42 L56 h42 h56
  rw [h7, n32_id (x := p) (by omega) (by omega), n32_id (x := n) (by omega) (by omega), show mm_rt 7 0 = 8 from rfl, h8]
  refine ⟨fun z => by omega, fun _ => ⟨fun z => ?_, fun z => ⟨fun _ => ⟨⟨by omega, by omega⟩, fun v ev => ?_⟩, fun y => by omega⟩⟩⟩
  · rw [kd_e.mpr (by omega)] at k; exact k
  · have pn : p < n := by omega
    have b := hb.2 p hp.1 pn
    rw [ev, n32_id (x := B p) (by omega) (by omega)]
    unfold kdf at k
    rw [if_pos pn] at k
    have s56 : ¬ (97 ≤ B p ∧ B p ≤ 122) → ¬ (48 ≤ B p ∧ B p ≤ 57) → L56 (B p) u := by
      intro n1 n2
      rw [if_neg n1, if_neg n2] at k
      have sg : (B p = 40 ∨ B p = 41 ∨ B p = 42 ∨ B p = 43 ∨ B p = 45 ∨ B p = 59 ∨ B p = 60 ∨ B p = 61) → post (B p) u := fun z => by rw [if_neg (by omega), if_pos z] at k; exact k
      have bl : (B p = 10 ∨ B p = 32) → post 3 u := fun z => by rw [if_pos z] at k; exact k
      have od : ¬ (B p = 10 ∨ B p = 32) → ¬ (B p = 40 ∨ B p = 41 ∨ B p = 42 ∨ B p = 43 ∨ B p = 45 ∨ B p = 59 ∨ B p = 60 ∨ B p = 61) → post 4 u := fun z y => by rw [if_neg z, if_neg y] at k; exact k
      clear k
      apply h56
      rw [n32_id (x := B p) (by omega) (by omega)]
      refine ⟨fun z => bl (by omega), fun z1 => ⟨fun z => bl (by omega), fun z2 => ⟨fun z => sg (by omega), fun z3 => ⟨fun z => sg (by omega), fun z4 => ⟨fun z => sg (by omega), fun z5 => ⟨fun z => sg (by omega), fun z6 => ⟨fun z => sg (by omega), fun z7 => ⟨fun z => sg (by omega), fun z8 => ⟨fun z => sg (by omega), fun z9 => ⟨fun z => sg (by omega), fun z10 => od (by omega) (by omega)⟩⟩⟩⟩⟩⟩⟩⟩⟩⟩
    have s42 : ¬ (97 ≤ B p ∧ B p ≤ 122) → L42 (B p) u := by
      intro n1
      apply h42
      rw [n32_id (x := B p) (by omega) (by omega)]
      refine ⟨fun z => s56 n1 (by omega), fun z => ⟨fun y => s56 n1 (by omega), fun y => ?_⟩⟩
      rw [if_neg n1, if_pos (by omega)] at k
      exact k
    refine ⟨fun z => s42 (by omega), fun z => ⟨fun y => s42 (by omega), fun y => ?_⟩⟩
    rw [if_pos (by omega)] at k
    exact k
/-- only what is read of the text moves -/
def f7 (s u : mm_M) : Prop := (∀ c : Nat, c ≠ 7 → u c = s c) ∧ u 7 1 = s 7 1
theorem f7.tr {s t u : mm_M} (h : f7 s t) (g : f7 t u) : f7 s u := ⟨fun c hc => (g.1 c hc).trans (h.1 c hc), g.2.trans h.2⟩
theorem f7.tx {s u : mm_M} (h : f7 s u) {B : Int → Int} {n : Int} (t : tx s B n) : tx u B n := ⟨(h.1 8 (by decide)).trans t.1, h.2.trans t.2.1, t.2.2⟩
theorem f7.up {s u v : mm_M} (h : f7 s u) {j x : Int} (hj : j ≠ 1) (e : v = mm_up u 7 j x) : f7 s v := ⟨fun c hc => by rw [e, up_c hc]; exact h.1 c hc, by rw [e, up_n (by omega)]; exact h.2⟩
theorem f7.rf {s : mm_M} : f7 s s := ⟨fun _ _ => rfl, rfl⟩
theorem f7.ag {s u : mm_M} (h : f7 s u) (h0 : u 7 0 = s 7 0) (hneg : ∀ j : Int, j < 0 → u 7 j = s 7 j) : ag s u := fun a j q => by
  by_cases z : a = 7
  · rw [z] at q ⊢
    by_cases y : j = 1
    · rw [y]; exact h.2
    · by_cases x : j = 0
      · rw [x]; exact h0
      · by_cases w : j < 0
        · exact hneg j w
        · have h2 : decide (2 ≤ j) = true := decide_eq_true (by omega)
          have : scr 7 j = true := by
            unfold scr
            rw [h2]
            simp
          rw [this] at q
          cases q
  · rw [h.1 a z]
/-- the token in hand -/
def tkC (u : mm_M) (B : Int → Int) (n p : Int) : Prop := u 7 3 = p ∧ u 7 2 = enf B n p ∧ u 7 4 = kdf B n p ∧ u 7 5 = nmf B n p
theorem t_adv {s : mm_M} {B : Int → Int} {n e : Int} (h : tx s B n) (he : 0 ≤ e ∧ e ≤ n) (h2 : s 7 2 = e) {post : mm_M → Prop} (k : ∀ u, (∀ c : Nat, c ≠ 7 → u c = s c) → (∀ j : Int, j ≠ 2 → j ≠ 3 → j ≠ 4 → j ≠ 5 → u 7 j = s 7 j) → tkC u B n (sk B n 500 e) → post u) : wp_X8_advance 7 s post := by
  have hn := h.2.2.1
  intro L0 L36 h0 h36
  have fr : ∀ {u : mm_M}, (∀ c : Nat, c ≠ 7 → u c = s c) → (∀ j : Int, j ≠ 2 → j ≠ 3 → j ≠ 4 → j ≠ 5 → u 7 j = s 7 j) → tx u B n := fun a b => ⟨(a 8 (by decide)).trans h.1, (b 1 (by decide) (by decide) (by decide) (by decide)).trans h.2.1, h.2.2⟩
  have sr := sk_r (B := B) 500 e he.2
  -- behind the blanks
  have tail : ∀ u, (∀ c : Nat, c ≠ 7 → u c = s c) → (∀ j : Int, j ≠ 2 → j ≠ 3 → j ≠ 4 → j ≠ 5 → u 7 j = s 7 j) → u 7 2 = sk B n 500 e → L36 u := by
    intro u f1 f2 u2
    generalize sk B n 500 e = p at sr u2 k
    apply h36
    intro s4 e4
    have g1 : ∀ c : Nat, c ≠ 7 → s4 c = s c := fun c hc => by rw [e4, up_c hc]; exact f1 c hc
    have g2 : ∀ j : Int, j ≠ 2 → j ≠ 3 → j ≠ 4 → j ≠ 5 → s4 7 j = s 7 j := fun j a b c d => by rw [e4, up_n (by omega)]; exact f2 j a b c d
    have s42 : s4 7 2 = p := by rw [e4, up_n (by decide)]; exact u2
    have s43 : s4 7 3 = p := by rw [e4, up_e]; exact u2
    rw [s42]
    refine t_kind (fr g1 g2) (by omega) ?_
    intro s7 e7 s8 e8
    have i1 : ∀ c : Nat, c ≠ 7 → s8 c = s c := fun c hc => by rw [e8, up_c hc, e7, up_c hc]; exact g1 c hc
    have i2 : ∀ j : Int, j ≠ 2 → j ≠ 3 → j ≠ 4 → j ≠ 5 → s8 7 j = s 7 j := fun j a b c d => by rw [e8, up_n (by omega), e7, up_n (by omega)]; exact g2 j a b c d
    have s82 : s8 7 2 = p := by rw [e8, up_n (by decide), e7, up_n (by decide)]; exact s42
    have s83 : s8 7 3 = p := by rw [e8, up_n (by decide), e7, up_n (by decide)]; exact s43
    have s84 : s8 7 4 = kdf B n p := by rw [e8, up_n (by decide), e7, up_e]
    have s85 : s8 7 5 = 0 := by rw [e8, up_e]
    have kr := kd_r (B := B) (n := n) (p := p)
    rw [s84, n32_id (x := kdf B n p) (by omega) (by omega)]
    refine ⟨fun n1 => ⟨fun n2 => ⟨fun n0 => ?_, fun n0 s9 e9 => ?_⟩, fun y2 => ?_⟩, fun y1 => ?_⟩
    · refine k s8 i1 i2 ⟨s83, ?_, s84, ?_⟩
      · rw [s82]; unfold enf; rw [if_pos n0]
      · rw [s85]; unfold nmf; rw [if_neg n2]
    · rw [s82] at e9
      refine k s9 (fun c hc => by rw [e9, up_c hc]; exact i1 c hc) (fun j a b c d => by rw [e9, up_n (by omega)]; exact i2 j a b c d) ⟨by rw [e9, up_n (by decide)]; exact s83, ?_, by rw [e9, up_n (by decide)]; exact s84, ?_⟩
      · rw [e9, up_e]; unfold enf; rw [if_neg n0, if_neg n1, if_neg n2]
      · rw [e9, up_n (by decide), s85]; unfold nmf; rw [if_neg n2]
    · intro L hL
      have key : ∀ (d : Nat) (x v : Int), 0 ≤ x → x ≤ n → n ≤ x + d → 0 ≤ v → v ≤ 100000 → dr B n 500 p = dr B n d x → dn B n 500 p 0 = dn B n d x v → ∀ w, (∀ c : Nat, c ≠ 7 → w c = s8 c) → (∀ j : Int, j ≠ 2 → j ≠ 5 → w 7 j = s8 7 j) → w 7 2 = x → w 7 5 = v → L w := by
        intro d
        induction d with
        | zero =>
          intro x v x0 xn xd v0 v1 er en w w1 w2 w3 w4
          have tw := fr (u := w) (fun c hc => (w1 c hc).trans (i1 c hc)) (fun j a b c d => (w2 j a d).trans (i2 j a b c d))
          apply hL
          rw [tw.2.1, w3, n32_id (x := n) (by omega) (by omega), n32_id (x := x) (by omega) (by omega)]
          refine ⟨fun _ => k w (fun c hc => (w1 c hc).trans (i1 c hc)) (fun j a b c d => (w2 j a d).trans (i2 j a b c d)) ⟨?_, ?_, ?_, ?_⟩, fun z => by omega⟩
          · rw [w2 3 (by decide) (by decide)]; exact s83
          · rw [w3]; unfold enf; rw [if_neg (by omega), if_neg n1, if_pos y2, er]; rfl
          · rw [w2 4 (by decide) (by decide)]; exact s84
          · rw [w4]; unfold nmf; rw [if_pos y2, en]; rfl
        | succ d ih =>
          intro x v x0 xn xd v0 v1 er en w w1 w2 w3 w4
          have tw := fr (u := w) (fun c hc => (w1 c hc).trans (i1 c hc)) (fun j a b c d => (w2 j a d).trans (i2 j a b c d))
          have stop : ¬ (x < n ∧ 48 ≤ B x ∧ B x ≤ 57) → post w := by
            intro z
            rw [dr_n z] at er
            rw [dn_n z] at en
            refine k w (fun c hc => (w1 c hc).trans (i1 c hc)) (fun j a b c d => (w2 j a d).trans (i2 j a b c d)) ⟨?_, ?_, ?_, ?_⟩
            · rw [w2 3 (by decide) (by decide)]; exact s83
            · rw [w3]; unfold enf; rw [if_neg (by omega), if_neg n1, if_pos y2, er]
            · rw [w2 4 (by decide) (by decide)]; exact s84
            · rw [w4]; unfold nmf; rw [if_pos y2, en]
          apply hL
          rw [tw.2.1, w3, n32_id (x := n) (by omega) (by omega), n32_id (x := x) (by omega) (by omega)]
          refine ⟨fun z => stop (by omega), fun z => t_kind tw (by omega) ?_⟩
          have kr2 := kd_r (B := B) (n := n) (p := x)
          rw [n32_id (x := kdf B n x) (by omega) (by omega)]
          refine ⟨fun y => stop (fun h => y (kd_2.mpr h)), fun y => ?_⟩
          have kk := kd_2.mp y
          rw [dr_y kk] at er
          rw [dn_y kk] at en
          rw [show mm_rt 7 0 = 8 from rfl, tw.1, w4, w3]
          refine ⟨⟨by omega, by omega⟩, fun v1' e1 => ?_⟩
          rw [e1, n32_id (x := v * 10 + B x - 48) (by omega) (by omega)]
          refine ⟨fun a s4' e4' s5' e5' => ?_, fun a s6' e6' s7' e7' => ?_⟩
          · rw [if_neg (by omega)] at en
            have q2 : s4' 7 2 = x := by rw [e4', up_n (by decide)]; exact w3
            rw [q2] at e5'
            exact ih (x + 1) 100000 (by omega) (by omega) (by omega) (by omega) (by omega) er en s5' (fun c hc => by rw [e5', up_c hc, e4', up_c hc]; exact w1 c hc) (fun j a b => by rw [e5', up_n (by omega), e4', up_n (by omega)]; exact w2 j a b) (by rw [e5', up_e]) (by rw [e5', up_n (by decide), e4', up_e])
          · rw [if_pos (by omega)] at en
            have q2 : s6' 7 2 = x := by rw [e6', up_n (by decide)]; exact w3
            rw [q2] at e7'
            exact ih (x + 1) (v * 10 + B x - 48) (by omega) (by omega) (by omega) (by omega) (by omega) er en s7' (fun c hc => by rw [e7', up_c hc, e6', up_c hc]; exact w1 c hc) (fun j a b => by rw [e7', up_n (by omega), e6', up_n (by omega)]; exact w2 j a b) (by rw [e7', up_e]) (by rw [e7', up_n (by decide), e6', up_e])
      exact key 500 p 0 (by omega) sr.2.1 (by omega) (by omega) (by omega) rfl rfl s8 (fun _ _ => rfl) (fun _ _ _ => rfl) s82 s85
    · intro L hL
      have key : ∀ (d : Nat) (x : Int), 0 ≤ x → x ≤ n → n ≤ x + d → lr B n 500 p = lr B n d x → ∀ w, (∀ c : Nat, c ≠ 7 → w c = s8 c) → (∀ j : Int, j ≠ 2 → w 7 j = s8 7 j) → w 7 2 = x → L w := by
        intro d
        induction d with
        | zero =>
          intro x x0 xn xd er w w1 w2 w3
          have tw := fr (u := w) (fun c hc => (w1 c hc).trans (i1 c hc)) (fun j a b c d => (w2 j a).trans (i2 j a b c d))
          apply hL
          rw [tw.2.1, w3, n32_id (x := n) (by omega) (by omega), n32_id (x := x) (by omega) (by omega)]
          refine ⟨fun _ => k w (fun c hc => (w1 c hc).trans (i1 c hc)) (fun j a b c d => (w2 j a).trans (i2 j a b c d)) ⟨?_, ?_, ?_, ?_⟩, fun z => by omega⟩
          · rw [w2 3 (by decide)]; exact s83
          · rw [w3]; unfold enf; rw [if_neg (by omega), if_pos y1, er]; rfl
          · rw [w2 4 (by decide)]; exact s84
          · rw [w2 5 (by decide), s85]; unfold nmf; rw [if_neg (by omega)]
        | succ d ih =>
          intro x x0 xn xd er w w1 w2 w3
          have tw := fr (u := w) (fun c hc => (w1 c hc).trans (i1 c hc)) (fun j a b c d => (w2 j a).trans (i2 j a b c d))
          have stop : ¬ (x < n ∧ 97 ≤ B x ∧ B x ≤ 122) → post w := by
            intro z
            rw [lr_n z] at er
            refine k w (fun c hc => (w1 c hc).trans (i1 c hc)) (fun j a b c d => (w2 j a).trans (i2 j a b c d)) ⟨?_, ?_, ?_, ?_⟩
            · rw [w2 3 (by decide)]; exact s83
            · rw [w3]; unfold enf; rw [if_neg (by omega), if_pos y1, er]
            · rw [w2 4 (by decide)]; exact s84
            · rw [w2 5 (by decide), s85]; unfold nmf; rw [if_neg (by omega)]
          apply hL
          rw [tw.2.1, w3, n32_id (x := n) (by omega) (by omega), n32_id (x := x) (by omega) (by omega)]
          refine ⟨fun z => stop (by omega), fun z => t_kind tw (by omega) ?_⟩
          have kr2 := kd_r (B := B) (n := n) (p := x)
          rw [n32_id (x := kdf B n x) (by omega) (by omega), w3]
          refine ⟨fun y => stop (fun h => y (kd_1.mpr h)), fun y s3' e3' => ?_⟩
          have kk := kd_1.mp y
          rw [lr_y kk] at er
          exact ih (x + 1) (by omega) (by omega) (by omega) er s3' (fun c hc => by rw [e3', up_c hc]; exact w1 c hc) (fun j a => by rw [e3', up_n (by omega)]; exact w2 j a) (by rw [e3', up_e])
      exact key 500 p (by omega) sr.2.1 (by omega) rfl s8 (fun _ _ => rfl) (fun _ _ => rfl) s82
  -- over the blanks
  have key : ∀ (d : Nat) (x : Int), 0 ≤ x → x ≤ n → n ≤ x + d → sk B n 500 e = sk B n d x → ∀ w, (∀ c : Nat, c ≠ 7 → w c = s c) → (∀ j : Int, j ≠ 2 → w 7 j = s 7 j) → w 7 2 = x → L0 w := by
    intro d
    induction d with
    | zero =>
      intro x x0 xn xd er w w1 w2 w3
      have tw := fr (u := w) w1 (fun j a _ _ _ => w2 j a)
      apply h0
      rw [tw.2.1, w3, n32_id (x := n) (by omega) (by omega), n32_id (x := x) (by omega) (by omega)]
      exact ⟨fun _ => tail w w1 (fun j a _ _ _ => w2 j a) (by rw [er]; exact w3), fun z => by omega⟩
    | succ d ih =>
      intro x x0 xn xd er w w1 w2 w3
      have tw := fr (u := w) w1 (fun j a _ _ _ => w2 j a)
      have stop : ¬ (x < n ∧ (B x = 32 ∨ B x = 10)) → L36 w := fun z => tail w w1 (fun j a _ _ _ => w2 j a) (by rw [er, sk_n z]; exact w3)
      apply h0
      rw [tw.2.1, w3, n32_id (x := n) (by omega) (by omega), n32_id (x := x) (by omega) (by omega)]
      refine ⟨fun z => stop (by omega), fun z => t_kind tw (by omega) ?_⟩
      have kr2 := kd_r (B := B) (n := n) (p := x)
      rw [n32_id (x := kdf B n x) (by omega) (by omega), w3]
      refine ⟨fun y => stop (fun h => y (kd_3.mpr h)), fun y s3' e3' => ?_⟩
      have kk := kd_3.mp y
      rw [sk_y kk] at er
      exact ih (x + 1) (by omega) (by omega) (by omega) er s3' (fun c hc => by rw [e3', up_c hc]; exact w1 c hc) (fun j a => by rw [e3', up_n (by omega)]; exact w2 j a) (by rw [e3', up_e])
  exact key 500 e he.1 he.2 (by omega) rfl s (fun _ _ => rfl) (fun _ _ => rfl) h2
