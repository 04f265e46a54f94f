section
theorem pk_us {f : Nat → Int32} {k : Nat} {x : Int32} : upd f k x k = x := if_pos rfl
theorem pk_un {f : Nat → Int32} {k j : Nat} {x : Int32} (h : j ≠ k) : upd f k x j = f j := if_neg h
theorem pk_sub {a b : Nat} (h : b ≤ a) : nI a - nI b = nI (a - b) := by
  obtain ⟨c, rfl⟩ : ∃ c, a = c + b := ⟨a - b, by omega⟩
  rw [← nI_add, Int32.add_sub_cancel, Nat.add_sub_cancel]
theorem pk_mul (a b : Nat) : nI a * nI b = nI (a * b) := (Int32.ofNat_mul a b).symm
theorem pk_div {a d : Nat} (ha : a < 2 ^ 31) (h0 : 0 < d) (hd : d < 2 ^ 31) : nI a / nI d = nI (a / d) := by
  apply Int32.toInt_inj.mp
  rw [lg_idiv_nonneg (by rw [nI_toInt ha]; omega) (by rw [nI_toInt hd]; omega), nI_toInt ha, nI_toInt hd, nI_toInt (Nat.lt_of_le_of_lt (Nat.div_le_self a d) ha)]
  first | rfl | exact (Int.natCast_ediv _ _).symm
theorem pk_rem {a d : Nat} (ha : a < 2 ^ 31) (h0 : 0 < d) (hd : d < 2 ^ 31) : nI a - nI a / nI d * nI d = nI (a % d) := by
  rw [pk_div ha h0 hd, pk_mul, pk_sub (Nat.div_mul_le_self a d)]
  exact congrArg nI (by have := Nat.div_add_mod' a d; omega)
theorem pk_le {x y : Int32} {A B : Prop} (a b : Nat) (f : a ≤ b → A) (g : b < a → B) (hx : x = nI a := by rfl) (hy : y = nI b := by rfl) (ha : a < 2 ^ 31 := by omega) (hb : b < 2 ^ 31 := by omega) : (x ≤ y → A) ∧ (¬ x ≤ y → B) := by
  subst hx hy
  rw [nI_leI ha hb]
  exact ⟨f, fun z => g (by omega)⟩
theorem pk_lt {x y : Int32} {A B : Prop} (a b : Nat) (f : a < b → A) (g : b ≤ a → B) (hx : x = nI a := by rfl) (hy : y = nI b := by rfl) (ha : a < 2 ^ 31 := by omega) (hb : b < 2 ^ 31 := by omega) : (x < y → A) ∧ (¬ x < y → B) := by
  subst hx hy
  rw [nI_ltI ha hb]
  exact ⟨f, fun z => g (by omega)⟩
theorem pk_eq {x y : Int32} {A B : Prop} (a b : Nat) (f : a = b → A) (g : a ≠ b → B) (hx : x = nI a := by rfl) (hy : y = nI b := by rfl) (ha : a < 2 ^ 31 := by omega) (hb : b < 2 ^ 31 := by omega) : (x = y → A) ∧ (¬ x = y → B) := by
  subst hx hy
  rw [nI_eq ha hb]
  exact ⟨f, g⟩
theorem pk_in {x : Int32} (n N : Nat) (h : n < N) (hx : x = nI n := by rfl) (hN : N < 2 ^ 31 := by omega) : vp_in x N := by
  subst hx
  exact vp_in_nI h hN
theorem pk_cl {x : Int32} (n : Nat) (hx : x = nI n := by rfl) (h : n < 2 ^ 31 := by omega) : x.toNatClampNeg = n := by
  subst hx
  exact nI_clamp h
theorem pk_tn {n : Nat} (h : n < 2 ^ 32) : (nI n).toBitVec.toNat = n := Nat.mod_eq_of_lt h
theorem pk_and (x : Int32) {m : Int32} (k : Nat) (hm : m.toBitVec.toNat = 2 ^ k - 1) : x &&& m = nI (x.toBitVec.toNat % 2 ^ k) := by
  apply Int32.toBitVec_inj.mp
  apply BitVec.eq_of_toNat_eq
  rw [Int32.toBitVec_and, BitVec.toNat_and, hm, Nat.and_two_pow_sub_one_eq_mod]
  show _ = (BitVec.ofNat 32 _).toNat
  rw [BitVec.toNat_ofNat]
  exact (Nat.mod_eq_of_lt (Nat.lt_of_le_of_lt (Nat.mod_le _ _) x.toBitVec.isLt)).symm
def bt (x : Int32) (i : Nat) : Bool := x.toBitVec.getLsbD i
theorem b_ext {x y : Int32} (h : ∀ i, i < 32 → bt x i = bt y i) : x = y := Int32.toBitVec_inj.mp (BitVec.eq_of_getLsbD_eq (fun i hi => h i hi))
theorem b_or (x y : Int32) (i : Nat) : bt (x ||| y) i = (bt x i || bt y i) := by unfold bt; rw [Int32.toBitVec_or, BitVec.getLsbD_or]
theorem b_and (x y : Int32) (i : Nat) : bt (x &&& y) i = (bt x i && bt y i) := by unfold bt; rw [Int32.toBitVec_and, BitVec.getLsbD_and]
theorem b_big {x : Int32} {i : Nat} (h : 32 ≤ i) : bt x i = false := BitVec.getLsbD_of_ge _ _ h
theorem b_0 (i : Nat) : bt 0 i = false := BitVec.getLsbD_zero
theorem s_l : ∀ n, n < 32 → ((nI n &&& 31).toBitVec.smod 32).toNat = n := by decide +kernel
theorem b_shl (n : Nat) (hn : n < 32) (x : Int32) {i : Nat} (hi : i < 32) : bt (x <<< (nI n &&& 31)) i = (decide (n ≤ i) && bt x (i - n)) := by
  unfold bt
  rw [Int32.toBitVec_shiftLeft]
  show (x.toBitVec <<< ((nI n &&& 31).toBitVec.smod 32).toNat).getLsbD i = _
  rw [s_l n hn, BitVec.getLsbD_shiftLeft]
  rcases Nat.lt_or_ge i n with h | h
  · simp [h, Nat.not_le.mpr h]
  · simp [hi, h, Nat.not_lt.mpr h]
theorem b_sshr (n : Nat) (hn : n < 32) (x : Int32) {i : Nat} (hi : i < 32) : bt (x >>> (nI n &&& 31)) i = if n + i < 32 then bt x (n + i) else bt x 31 := by
  unfold bt
  rw [Int32.toBitVec_shiftRight]
  show (x.toBitVec.sshiftRight ((nI n &&& 31).toBitVec.smod 32).toNat).getLsbD i = _
  rw [s_l n hn, BitVec.getLsbD_sshiftRight, BitVec.msb_eq_getLsbD_last]
  simp [hi]
/-! words by their numbers -/
def wn_ln (w : Nat) : Nat := if w < 1 then 0 else if w < 3 then 1 else if w < 7 then 2 else if w < 15 then 3 else 4
def wn_rm (w : Nat) : Nat := 2 ^ (5 - wn_ln w) - 1
def wn_jn (a b : Nat) : Nat := a * 2 ^ wn_ln b + b
def wn_hd (w p : Nat) : Nat := 2 ^ p - 1 + (w - (2 ^ wn_ln w - 1)) / 2 ^ (wn_ln w - p)
def wn_tl (w p : Nat) : Nat := 2 ^ (wn_ln w - p) - 1 + (w - (2 ^ wn_ln w - 1)) % 2 ^ (wn_ln w - p)
def wn_J (a b w : Nat) : Prop := a < 31 ∧ b < wn_rm a ∧ wn_jn a b = w
theorem wn_t1 : ∀ a, a < 31 → ∀ b, b < wn_rm a → wn_jn a b < 31 ∧ b < 31 ∧ wn_ln a ≤ wn_ln (wn_jn a b) ∧ wn_hd (wn_jn a b) (wn_ln a) = a ∧ wn_tl (wn_jn a b) (wn_ln a) = b := by decide +kernel
theorem wn_t2 : ∀ w, w < 31 → ∀ p, p < wn_ln w + 1 → wn_hd w p < 31 ∧ wn_tl w p < wn_rm (wn_hd w p) ∧ wn_jn (wn_hd w p) (wn_tl w p) = w ∧ wn_tl w p < 31 := by decide +kernel
theorem wn_t2p : ∀ w, w < 31 → ∀ p, p < wn_ln w + 1 → (0 < p ↔ 0 < wn_hd w p) := by decide +kernel
theorem wn_t3 : ∀ a, a < 31 → ∀ b, b < wn_rm a → ∀ c, c < wn_rm (wn_jn a b) → c < wn_rm b ∧ wn_jn b c < wn_rm a ∧ wn_jn a (wn_jn b c) = wn_jn (wn_jn a b) c := by decide +kernel
theorem wn_t4 : ∀ b, b < 31 → ∀ c, c < wn_rm b → ∀ a, a < 31 → wn_jn b c < wn_rm a → b < wn_rm a ∧ c < wn_rm (wn_jn a b) := by decide +kernel
theorem wn_t5 : ∀ a, a < 31 → (0 < wn_ln a ↔ 0 < a) ∧ wn_ln a ≤ 4 := by decide +kernel
theorem wn_t6 : ∀ a, a < 31 → ∀ b, b < wn_rm a → wn_ln (wn_jn a b) = wn_ln a + wn_ln b := by decide +kernel
theorem wn_r0 : ∀ b, b < 31 → b < wn_rm 0 ∧ wn_jn 0 b = b ∧ 0 < wn_rm b ∧ wn_jn b 0 = b := by decide +kernel
theorem wn_rl : ∀ a, a < 31 → wn_rm a ≤ 31 := by decide +kernel
theorem wn_Jlt {a b w : Nat} (h : wn_J a b w) : w < 31 ∧ b < 31 := by
  obtain ⟨h1, h2, h3⟩ := h
  have := wn_t1 a h1 b h2
  exact ⟨by rw [← h3]; exact this.1, this.2.1⟩
theorem wn_J0 {b : Nat} (h : b < 31) : wn_J 0 b b := ⟨by decide, (wn_r0 b h).1, (wn_r0 b h).2.1⟩
theorem wn_J0r {a : Nat} (h : a < 31) : wn_J a 0 a := ⟨h, (wn_r0 a h).2.2.1, (wn_r0 a h).2.2.2⟩
theorem wn_J0e {b w : Nat} (h : wn_J 0 b w) : w = b := by
  have hb := (wn_Jlt h).2
  exact h.2.2.symm.trans (wn_r0 b hb).2.1
theorem wn_JL {a b x c w : Nat} (h : wn_J a b x) (h' : wn_J x c w) : ∃ y, wn_J b c y ∧ wn_J a y w := by
  obtain ⟨h1, h2, rfl⟩ := h
  obtain ⟨g1, g2, rfl⟩ := h'
  have t := wn_t3 a h1 b h2 c g2
  exact ⟨wn_jn b c, ⟨(wn_t1 a h1 b h2).2.1, t.1, rfl⟩, h1, t.2.1, t.2.2⟩
theorem wn_JR {a b y c w : Nat} (h : wn_J b c y) (h' : wn_J a y w) : ∃ x, wn_J a b x ∧ wn_J x c w := by
  obtain ⟨h1, h2, rfl⟩ := h
  obtain ⟨g1, g2, rfl⟩ := h'
  have t := wn_t4 b h1 c h2 a g1 g2
  have t3 := wn_t3 a g1 b t.1 c t.2
  exact ⟨wn_jn a b, ⟨g1, t.1, rfl⟩, (wn_t1 a g1 b t.1).1, t.2, t3.2.2.symm⟩
theorem wn_Jc {w p : Nat} (hw : w < 31) (hp : p ≤ wn_ln w) : wn_J (wn_hd w p) (wn_tl w p) w :=
  have t := wn_t2 w hw p (by omega)
  ⟨t.1, t.2.1, t.2.2.1⟩
theorem wn_Jp {a b w : Nat} (h : wn_J a b w) : ∃ p, p ≤ wn_ln w ∧ wn_hd w p = a ∧ wn_tl w p = b := by
  obtain ⟨h1, h2, rfl⟩ := h
  have t := wn_t1 a h1 b h2
  exact ⟨wn_ln a, t.2.2.1, t.2.2.2.1, t.2.2.2.2⟩
theorem wn_Jle {a b w : Nat} (h : wn_J a b w) : b ≤ w ∧ (0 < a → b < w) := by
  obtain ⟨h1, h2, rfl⟩ := h
  refine ⟨Nat.le_add_left _ _, fun ha => ?_⟩
  have : 0 < a * 2 ^ wn_ln b := Nat.mul_pos ha (Nat.two_pow_pos _)
  show b < a * 2 ^ wn_ln b + b
  omega
/-! relations of words -/
def rl_cat (R S : Nat → Nat → Prop) (u v : Nat) : Prop := ∃ a b c d, wn_J a b u ∧ wn_J c d v ∧ R a c ∧ S b d
def rl_ct1 (R S : Nat → Nat → Prop) (u v : Nat) : Prop := ∃ a b c d, wn_J a b u ∧ wn_J c d v ∧ (0 < a ∨ 0 < c) ∧ R a c ∧ S b d
def rl_z (R : Nat → Nat → Prop) (u v : Nat) : Prop := (u = 0 ∧ v = 0) ∨ R u v
def rl_pw (R : Nat → Nat → Prop) : Nat → Nat → Nat → Prop
  | 0 => fun u v => u = 0 ∧ v = 0
  | n + 1 => rl_cat (rl_z R) (rl_pw R n)
theorem rl_cat_lt {R S : Nat → Nat → Prop} {u v : Nat} (h : rl_cat R S u v) : u < 31 ∧ v < 31 := by
  obtain ⟨a, b, c, d, h1, h2, _⟩ := h
  exact ⟨(wn_Jlt h1).1, (wn_Jlt h2).1⟩
theorem rl_cat_mono {R S R' S' : Nat → Nat → Prop} (hR : ∀ u, u < 31 → ∀ v, v < 31 → R u v → R' u v) (hS : ∀ u, u < 31 → ∀ v, v < 31 → S u v → S' u v) {u v : Nat} (h : rl_cat R S u v) : rl_cat R' S' u v := by
  obtain ⟨a, b, c, d, h1, h2, h3, h4⟩ := h
  exact ⟨a, b, c, d, h1, h2, hR a h1.1 c h2.1 h3, hS b (wn_Jlt h1).2 d (wn_Jlt h2).2 h4⟩
theorem rl_assoc {R S T : Nat → Nat → Prop} {u v : Nat} : rl_cat (rl_cat R S) T u v ↔ rl_cat R (rl_cat S T) u v := by
  constructor
  · rintro ⟨x, c, x', c', h1, h2, ⟨a, b, a', b', g1, g2, hR, hS⟩, hT⟩
    obtain ⟨y, k1, k2⟩ := wn_JL g1 h1
    obtain ⟨y', k1', k2'⟩ := wn_JL g2 h2
    exact ⟨a, y, a', y', k2, k2', hR, b, c, b', c', k1, k1', hS, hT⟩
  · rintro ⟨a, y, a', y', h1, h2, hR, ⟨b, c, b', c', g1, g2, hS, hT⟩⟩
    obtain ⟨x, k1, k2⟩ := wn_JR g1 h1
    obtain ⟨x', k1', k2'⟩ := wn_JR g2 h2
    exact ⟨x, c, x', c', k2, k2', ⟨a, b, a', b', k1, k1', hR, hS⟩, hT⟩
theorem rl_pw_lt {R : Nat → Nat → Prop} {n u v : Nat} (h : rl_pw R n u v) : u < 31 ∧ v < 31 := by
  cases n with
  | zero => obtain ⟨rfl, rfl⟩ := h; exact ⟨by decide, by decide⟩
  | succ n => exact rl_cat_lt h
theorem rl_pw_add {R : Nat → Nat → Prop} {m n : Nat} : ∀ {u v : Nat}, rl_cat (rl_pw R m) (rl_pw R n) u v ↔ rl_pw R (m + n) u v := by
  induction m with
  | zero =>
    intro u v
    rw [Nat.zero_add]
    constructor
    · rintro ⟨a, b, c, d, h1, h2, ⟨rfl, rfl⟩, h4⟩
      rw [wn_J0e h1, wn_J0e h2]; exact h4
    · intro h
      have l := rl_pw_lt h
      exact ⟨0, u, 0, v, wn_J0 l.1, wn_J0 l.2, ⟨rfl, rfl⟩, h⟩
  | succ m ih =>
    intro u v
    rw [show m + 1 + n = (m + n) + 1 by omega]
    show rl_cat (rl_cat (rl_z R) (rl_pw R m)) (rl_pw R n) u v ↔ rl_cat (rl_z R) (rl_pw R (m + n)) u v
    rw [rl_assoc]
    exact ⟨rl_cat_mono (fun _ _ _ _ h => h) (fun _ _ _ _ h => ih.mp h), rl_cat_mono (fun _ _ _ _ h => h) (fun _ _ _ _ h => ih.mpr h)⟩
theorem rl_pw_up {R : Nat → Nat → Prop} {n u v : Nat} (h : rl_pw R n u v) : rl_pw R (n + 1) u v := by
  have l := rl_pw_lt h
  exact ⟨0, u, 0, v, wn_J0 l.1, wn_J0 l.2, Or.inl ⟨rfl, rfl⟩, h⟩
theorem rl_pw_mono {R : Nat → Nat → Prop} {n u v : Nat} (h : rl_pw R n u v) : ∀ k, rl_pw R (n + k) u v := by
  intro k
  induction k with
  | zero => exact h
  | succ k ih => exact rl_pw_up ih
theorem rl_pw_le {R : Nat → Nat → Prop} {n m u v : Nat} (h : rl_pw R n u v) (hm : n ≤ m) : rl_pw R m u v := by
  have := rl_pw_mono h (m - n)
  rwa [show n + (m - n) = m by omega] at this
theorem rl_pw_len {R : Nat → Nat → Prop} : ∀ {n u v : Nat}, rl_pw R n u v → rl_pw R (wn_ln u + wn_ln v) u v := by
  intro n
  induction n with
  | zero => rintro u v ⟨rfl, rfl⟩; exact ⟨rfl, rfl⟩
  | succ n ih =>
    rintro u v ⟨a, b, c, d, h1, h2, h3, h4⟩
    by_cases z : a = 0 ∧ c = 0
    · obtain ⟨rfl, rfl⟩ := z
      rw [wn_J0e h1, wn_J0e h2]; exact ih h4
    · have k : rl_pw R (wn_ln b + wn_ln d + 1) u v := ⟨a, b, c, d, h1, h2, h3, ih h4⟩
      refine rl_pw_le k ?_
      have e1 := wn_t6 a h1.1 b h1.2.1
      have e2 := wn_t6 c h2.1 d h2.2.1
      rw [h1.2.2] at e1
      rw [h2.2.2] at e2
      have f1 := (wn_t5 a h1.1).1
      have f2 := (wn_t5 c h2.1).1
      omega
theorem rl_pw_8 {R : Nat → Nat → Prop} {n u v : Nat} (h : rl_pw R n u v) : rl_pw R 8 u v := by
  have l := rl_pw_lt h
  exact rl_pw_le (rl_pw_len h) (by have := (wn_t5 u l.1).2; have := (wn_t5 v l.2).2; omega)
theorem rl_s1 {R : Nat → Nat → Prop} {u v : Nat} (h : rl_ct1 R (rl_pw R 8) u v) : rl_pw R 8 u v := by
  obtain ⟨a, b, c, d, h1, h2, _, h3, h4⟩ := h
  exact rl_pw_8 (n := 9) ⟨a, b, c, d, h1, h2, Or.inr h3, h4⟩
theorem rl_s2 {R : Nat → Nat → Prop} : ∀ {n u v : Nat}, rl_pw R n u v → ¬ (u = 0 ∧ v = 0) → rl_ct1 R (rl_pw R 8) u v := by
  intro n
  induction n with
  | zero => intro u v h hn; exact absurd h hn
  | succ n ih =>
    rintro u v ⟨a, b, c, d, h1, h2, h3, h4⟩ hn
    by_cases z : a = 0 ∧ c = 0
    · obtain ⟨rfl, rfl⟩ := z
      rw [wn_J0e h1, wn_J0e h2] at hn ⊢; exact ih h4 hn
    · exact ⟨a, b, c, d, h1, h2, by omega, h3.resolve_left z, rl_pw_8 h4⟩
theorem rl_pw_1 {R : Nat → Nat → Prop} {u v : Nat} (hu : u < 31) (hv : v < 31) : rl_pw R 1 u v ↔ rl_z R u v := by
  constructor
  · rintro ⟨a, b, c, d, h1, h2, h3, ⟨rfl, rfl⟩⟩
    have e1 : a = u := (wn_r0 a h1.1).2.2.2.symm.trans h1.2.2
    have e2 : c = v := (wn_r0 c h2.1).2.2.2.symm.trans h2.2.2
    rw [← e1, ← e2]; exact h3
  · intro h
    exact ⟨u, 0, v, 0, wn_J0r hu, wn_J0r hv, h, rfl, rfl⟩
/-! bits -/
theorem bq_1 : ∀ i, i < 32 → bt 1 i = decide (i = 0) := by decide +kernel
theorem bq_c (y : Int32) : y &&& 1 = if bt y 0 = true then 1 else 0 := by
  apply b_ext
  intro i hi
  rw [b_and, bq_1 i hi]
  by_cases h : i = 0
  · subst h
    by_cases g : bt y 0 = true
    · rw [if_pos g, g]; decide
    · rw [if_neg g, Bool.not_eq_true _ |>.mp g]; decide
  · rw [decide_eq_false h, Bool.and_false]
    by_cases g : bt y 0 = true
    · rw [if_pos g, bq_1 i hi, decide_eq_false h]
    · rw [if_neg g, b_0]
theorem bq_s (x : Int32) {v : Nat} (hv : v < 32) : (x >>> (nI v &&& 31)) &&& 1 = if bt x v = true then 1 else 0 := by
  have e : bt (x >>> (nI v &&& 31)) 0 = bt x v := by
    rw [b_sshr v hv x (by decide), if_pos (show v + 0 < 32 by omega), Nat.add_zero]
  rw [bq_c, e]
theorem bq_z (x : Int32) {v : Nat} (hv : v < 32) : (x >>> (nI v &&& 31)) &&& 1 = 0 ↔ ¬ bt x v = true := by
  rw [bq_s x hv]
  by_cases g : bt x v = true
  · rw [if_pos g]; exact ⟨fun h => absurd h (by decide), fun h => absurd g h⟩
  · rw [if_neg g]; exact ⟨fun _ => g, fun _ => rfl⟩
theorem bq_o (x : Int32) {v : Nat} (hv : v < 32) : (x >>> (nI v &&& 31)) &&& 1 = 1 ↔ bt x v = true := by
  rw [bq_s x hv]
  by_cases g : bt x v = true
  · rw [if_pos g]; exact ⟨fun _ => g, fun _ => rfl⟩
  · rw [if_neg g]; exact ⟨fun h => absurd h (by decide), fun h => absurd h g⟩
theorem bq_b {k : Nat} (hk : k < 32) (j : Nat) : bt ((1 : Int32) <<< (nI k &&& 31)) j = true ↔ j = k := by
  by_cases hj : j < 32
  · rw [b_shl k hk 1 hj]
    by_cases h : k ≤ j
    · rw [decide_eq_true h, Bool.true_and, bq_1 _ (by omega), decide_eq_true_iff]; omega
    · rw [decide_eq_false h, Bool.false_and]
      exact ⟨fun z => Bool.noConfusion z, fun z => by omega⟩
  · rw [b_big (by omega)]
    exact ⟨fun z => Bool.noConfusion z, fun z => by omega⟩
theorem bq_set (x : Int32) {k : Nat} (hk : k < 32) (j : Nat) : bt (x ||| ((1 : Int32) <<< (nI k &&& 31))) j = true ↔ bt x j = true ∨ j = k := by
  rw [b_or, Bool.or_eq_true, bq_b hk]
theorem bq_or (x y : Int32) (j : Nat) : bt (x ||| y) j = true ↔ bt x j = true ∨ bt y j = true := by
  rw [b_or, Bool.or_eq_true]
theorem bq_n0 (j : Nat) : ¬ bt 0 j = true := by rw [b_0]; exact Bool.noConfusion
theorem bq_ext {x y : Int32} {P : Nat → Prop} (hx : ∀ j, bt x j = true ↔ P j) (hy : ∀ j, bt y j = true ↔ P j) : x = y :=
  b_ext fun i _ => Bool.eq_iff_iff.mpr ((hx i).trans (hy i).symm)
end
section
/-! the component's helpers, each with a general post -/
theorem xw_t1 : ∀ w, w < 31 → ∀ i, i < wn_ln w → ¬ (4 : Int32) ≤ nI i ∧ ¬ nI w < ((2 : Int32) <<< (nI i &&& 31)) - 1 := by decide +kernel
theorem xw_t2 : ∀ w, w < 31 → (4 : Int32) ≤ nI (wn_ln w) ∨ nI w < ((2 : Int32) <<< (nI (wn_ln w) &&& 31)) - 1 := by decide +kernel
theorem xw_t3 : ∀ w, w < 31 → ((2 : Int32) <<< ((4 - nI (wn_ln w)) &&& 31)) - 1 = nI (wn_rm w) := by decide +kernel
theorem xw_t4 : ∀ a, a < 31 → ∀ b, b < wn_rm a → (nI a <<< (nI (wn_ln b) &&& 31)) + nI b = nI (wn_jn a b) := by decide +kernel
theorem xw_10 : ¬ (1 : Int32) = 0 := by decide
theorem xw_ic {a b : Nat} (h : a + b < 2 ^ 31) : (nI a + nI b).toNatClampNeg = a + b := by rw [nI_add, nI_clamp h]
theorem xw_ii {a b N : Nat} (h : a + b < N) (hN : N < 2 ^ 31) : vp_in (nI a + nI b) N := by rw [nI_add]; exact vp_in_nI h hN
theorem xw_len {post : Int32 → Prop} {w : Nat} (hw : w < 31) (h : post (nI (wn_ln w))) : wpX_lengthOf post (nI w) :=
  loop_0 (fun n i (_ : Unit) => wX_lengthOf_2 post (nI w) n (nI i)) (fun _ _ => True) (wn_ln w) () trivial
    (fun n _ _ => br_c (fun _ => h) (fun z => br_t ((xw_t2 w hw).resolve_left z) h))
    (fun n i _ hi _ ih => br_f (xw_t1 w hw i hi).1 (br_f (xw_t1 w hw i hi).2 (nm_r (nI_1 i) (ih () trivial))))
theorem xw_room {post : Int32 → Prop} {w : Nat} (hw : w < 31) (h : post (nI (wn_rm w))) : wpX_wordsThatFitBehind post (nI w) :=
  xw_len hw (nm_e (by rw [xw_t3 w hw]; exact h))
theorem xw_join {post : Int32 → Prop} {a b : Nat} (ha : a < 31) (hb : b < wn_rm a) (h : post (nI (wn_jn a b))) : wpX_joined post (nI a) (nI b) :=
  xw_len (wn_t1 a ha b hb).2.1 (by rw [xw_t4 a ha b hb]; exact h)
theorem xw_holds {post : Int32 → Prop} {x : Int32} {v : Nat} (hv : v < 31) (h1 : bt x v = true → post 1) (h0 : ¬ bt x v = true → post 0) : wpX_holds post x (nI v) :=
  ⟨fun z => h0 ((bq_z x (by omega)).mp z), fun z => h1 (Classical.byContradiction fun g => z ((bq_z x (by omega)).mpr g))⟩
theorem xw_hb {A B : Prop} {x : Int32} {v : Nat} (hv : v < 31) (h1 : bt x v = true → B) (h0 : ¬ bt x v = true → A) : wpX_holds (fun r => (r = 0 → A) ∧ (¬ r = 0 → B)) x (nI v) :=
  xw_holds hv (fun z => br_f xw_10 (h1 z)) (fun z => br_t rfl (h0 z))
theorem xw_aj27 {post : Int32 → Prop} {J4 : Int32 → Int32 → Prop} {F B : Int32} {f : Nat} (hf : f < 31) (s : Int32)
    (hJ : ∀ s', (∀ j, bt s' j = true ↔ bt s j = true ∨ ∃ b, wn_J f b j ∧ bt B b = true) → J4 s' (nI (f + 1))) :
    ∃ n, wX_allJoined_27 post J4 F B (nI f) (nI (wn_rm f)) n s 0 := by
  have hr := wn_rl f hf
  refine loop_0 (fun n i s' => wX_allJoined_27 post J4 F B (nI f) (nI (wn_rm f)) n s' (nI i)) (fun i s' => ∀ j, bt s' j = true ↔ bt s j = true ∨ ∃ b, b < i ∧ wn_J f b j ∧ bt B b = true) (wn_rm f) s ?_ ?_ ?_
  · intro j
    exact ⟨Or.inl, fun h => h.elim id (fun ⟨b, hb, _⟩ => absurd hb (Nat.not_lt_zero _))⟩
  · intro n s' I
    refine br_t (nI_le (Nat.le_refl _) (by omega)) (nm_r (nI_1 f) (hJ s' fun j => (I j).trans ?_))
    exact ⟨fun h => h.imp id (fun ⟨b, _, hb⟩ => ⟨b, hb⟩), fun h => h.imp id (fun ⟨b, hb⟩ => ⟨b, hb.1.2.1, hb⟩)⟩
  · intro n i s' hi I ih
    refine br_f (nI_ge hi (by omega)) (xw_hb (by omega) (fun hb => ?_) (fun hb => ?_))
    · refine xw_join hf hi (nm_e (nm_r (nI_1 i) (ih _ fun j => ?_)))
      have hw := (wn_t1 f hf i hi).1
      rw [bq_set _ (by omega) j, I j]
      constructor
      · rintro ((h | ⟨b, h1, h2⟩) | rfl)
        · exact Or.inl h
        · exact Or.inr ⟨b, by omega, h2⟩
        · exact Or.inr ⟨i, by omega, ⟨hf, hi, rfl⟩, hb⟩
      · rintro (h | ⟨b, h1, h2, h3⟩)
        · exact Or.inl (Or.inl h)
        · by_cases e : b = i
          · subst e; exact Or.inr h2.2.2.symm
          · exact Or.inl (Or.inr ⟨b, by omega, h2, h3⟩)
    · refine nm_r (nI_1 i) (ih _ fun j => (I j).trans ?_)
      constructor
      · rintro (h | ⟨b, h1, h2⟩)
        · exact Or.inl h
        · exact Or.inr ⟨b, by omega, h2⟩
      · rintro (h | ⟨b, h1, h2, h3⟩)
        · exact Or.inl h
        · by_cases e : b = i
          · subst e; exact absurd h3 hb
          · exact Or.inr ⟨b, by omega, h2, h3⟩
theorem xw_allJ {post : Int32 → Prop} {F B : Int32} (h : ∀ r, (∀ j, bt r j = true ↔ ∃ f b, wn_J f b j ∧ bt F f = true ∧ bt B b = true) → post r) : wpX_allJoined post F B := by
  refine loop_0 (fun n i s => wX_allJoined_4 post F B n s (nI i)) (fun i s => ∀ j, bt s j = true ↔ ∃ f b, f < i ∧ wn_J f b j ∧ bt F f = true ∧ bt B b = true) 31 0 ?_ ?_ ?_
  · intro j
    exact ⟨fun z => absurd z (bq_n0 j), fun ⟨f, b, hb, _⟩ => absurd hb (Nat.not_lt_zero _)⟩
  · intro n s I
    refine br_t (nI_le (Nat.le_refl 31) (by omega)) (h s fun j => (I j).trans ?_)
    exact ⟨fun ⟨f, b, _, hb⟩ => ⟨f, b, hb⟩, fun ⟨f, b, hb⟩ => ⟨f, b, hb.1.1, hb⟩⟩
  · intro n i s hi I ih
    refine br_f (nI_ge (b := 31) hi (by decide)) (xw_hb hi (fun hb => ?_) (fun hb => ?_))
    · refine xw_room hi (xw_aj27 hi s fun s' hs' => ih s' fun j => (hs' j).trans ?_)
      rw [I j]
      constructor
      · rintro (⟨f, b, h1, h2⟩ | ⟨b, h2, h3⟩)
        · exact ⟨f, b, by omega, h2⟩
        · exact ⟨i, b, by omega, h2, hb, h3⟩
      · rintro ⟨f, b, h1, h2, h3, h4⟩
        by_cases e : f = i
        · subst e; exact Or.inr ⟨b, h2, h4⟩
        · exact Or.inl ⟨f, b, by omega, h2, h3, h4⟩
    · refine nm_r (nI_1 i) (ih s fun j => (I j).trans ?_)
      constructor
      · rintro ⟨f, b, h1, h2⟩
        exact ⟨f, b, by omega, h2⟩
      · rintro ⟨f, b, h1, h2, h3, h4⟩
        by_cases e : f = i
        · subst e; exact absurd h3 hb
        · exact ⟨f, b, by omega, h2, h3, h4⟩
section XS
variable {h s p : Int32} {st iu m : Nat → Int32}
theorem xw_clear {post : SX → Prop} (hp : ∀ m' : Nat → Int32, (∀ i, i < 31 → m' i = 0) → post (h, s, p, st, iu, m')) : wpX_clearMade post (h, s, p, st, iu, m) := by
  refine loop_0 (fun n i m' => wX_clearMade_2 post h s p n (nI i) st iu m') (fun i m' => ∀ k, k < i → m' k = 0) 31 m (fun k hk => absurd hk (Nat.not_lt_zero _)) ?_ ?_
  · intro n m' I
    exact br_t (nI_le (Nat.le_refl 31) (by omega)) (hp m' I)
  · intro n i m' hi I ih
    refine br_f (nI_ge (b := 31) hi (by decide)) ⟨vp_in_nI hi (by decide), nm_e (nm_r (nI_1 i) (ih _ fun k hk => ?_))⟩
    rw [nI_clamp (by omega)]
    by_cases e : k = i
    · subst e; exact pk_us
    · rw [pk_un e]; exact I k (by omega)
theorem xw_copy {post : SX → Prop} {c : Nat} (hc : c + 31 ≤ 186) (hp : ∀ st' : Nat → Int32, (∀ i, i < 31 → st' (c + i) = m i) → (∀ i, i < c ∨ c + 31 ≤ i → st' i = st i) → post (h, s, p, st', iu, m)) : wpX_copyMadeTo post (h, s, p, st, iu, m) (nI c) := by
  refine loop_0 (fun n i st' => wX_copyMadeTo_2 post (nI c) h s p n (nI i) st' iu m) (fun i st' => (∀ k, k < i → st' (c + k) = m k) ∧ (∀ k, k < c ∨ c + 31 ≤ k → st' k = st k)) 31 st ⟨(fun k hk => absurd hk (Nat.not_lt_zero _)), fun _ _ => rfl⟩ ?_ ?_
  · intro n st' I
    exact br_t (nI_le (Nat.le_refl 31) (by omega)) (hp st' I.1 I.2)
  · intro n i st' hi I ih
    refine br_f (nI_ge (b := 31) hi (by decide)) ⟨vp_in_nI hi (by decide), xw_ii (by omega) (by decide), nm_e (nm_r (nI_1 i) (ih _ ⟨fun k hk => ?_, fun k hk => ?_⟩))⟩
    · rw [xw_ic (by omega), nI_clamp (by omega)]
      by_cases e : k = i
      · subst e; exact pk_us
      · rw [pk_un (by omega)]; exact I.1 k (by omega)
    · rw [xw_ic (by omega), pk_un (by omega)]; exact I.2 k hk
theorem xw_top {post : Int32 → Prop} {d : Nat} (hp : post (nI (31 * d))) : wpX_topStart post (nI (d + 1), s, p, st, iu, m) := by
  unfold wpX_topStart
  dsimp only
  rw [show (nI (d + 1) - 1) * 31 = nI (31 * d) by rw [nI_pred, Nat.mul_comm]; exact pk_mul d 31]
  exact hp
theorem xw_put {post : Int32 → SX → Prop} {d : Nat} (hd : d < 6) (hp : ∀ st' : Nat → Int32, (∀ i, i < 31 → st' (31 * d + i) = m i) → (∀ i, i < 31 * d ∨ 31 * d + 31 ≤ i → st' i = st i) → post (nI (d + 1)) (nI (d + 1), s + 1, p, st', iu, m)) : wpX_putMadeOnTop post (nI (d + 1), s, p, st, iu, m) := by
  unfold wpX_putMadeOnTop
  dsimp only
  refine xw_top ?_
  refine xw_copy (by omega) fun st' h1 h2 => ?_
  exact nm_e (hp st' h1 h2)
theorem xw_mc21 {post : SX → Prop} {J6 : Int32 → (Nat → Int32) → (Nat → Int32) → (Nat → Int32) → Prop} {c1 c2 f : Nat} (h1 : c1 + 31 ≤ 186) (h2 : c2 + 31 ≤ 186) (hf : f < 31)
    (hJ : ∀ m' : Nat → Int32, (∀ w, w < 31 → ∀ j, bt (m' w) j = true ↔ bt (m w) j = true ∨ ∃ b c d, wn_J f b w ∧ wn_J c d j ∧ bt (st (c1 + f)) c = true ∧ bt (st (c2 + b)) d = true) → J6 (nI (f + 1)) st iu m') :
    ∃ n, wX_makeCat_21 post J6 (nI c1) (nI c2) (nI f) (nI (wn_rm f)) h s p n 0 st iu m := by
  have hr := wn_rl f hf
  refine loop_0 (fun n i m' => wX_makeCat_21 post J6 (nI c1) (nI c2) (nI f) (nI (wn_rm f)) h s p n (nI i) st iu m')
    (fun i m' => ∀ w, w < 31 → ∀ j, bt (m' w) j = true ↔ bt (m w) j = true ∨ ∃ b c d, b < i ∧ wn_J f b w ∧ wn_J c d j ∧ bt (st (c1 + f)) c = true ∧ bt (st (c2 + b)) d = true) (wn_rm f) m ?_ ?_ ?_
  · intro w _ j
    exact ⟨Or.inl, fun h => h.elim id (fun ⟨b, _, _, hb, _⟩ => absurd hb (Nat.not_lt_zero _))⟩
  · intro n m' I
    refine br_t (nI_le (Nat.le_refl _) (by omega)) (nm_r (nI_1 f) (hJ m' fun w hw j => (I w hw j).trans ?_))
    exact ⟨fun h => h.imp id (fun ⟨b, c, d, _, hb⟩ => ⟨b, c, d, hb⟩), fun h => h.imp id (fun ⟨b, c, d, hb⟩ => ⟨b, c, d, hb.1.2.1, hb⟩)⟩
  · intro n i m' hi I ih
    have hw := wn_t1 f hf i hi
    refine br_f (nI_ge hi (by omega)) (xw_join hf hi ⟨vp_in_nI hw.1 (by decide), xw_ii (by omega) (by decide), xw_ii (by omega) (by decide), xw_allJ fun r hr => ⟨vp_in_nI hw.1 (by decide), nm_e (nm_r (nI_1 i) (ih _ fun w hw' j => ?_))⟩⟩)
    rw [xw_ic (by omega), xw_ic (by omega)] at hr
    rw [nI_clamp (by omega)]
    by_cases e : w = wn_jn f i
    · subst e
      rw [pk_us, bq_or, I _ hw.1 j, hr j]
      constructor
      · rintro ((z | ⟨b, c, d, z1, z2⟩) | ⟨c, d, z1, z2⟩)
        · exact Or.inl z
        · exact Or.inr ⟨b, c, d, by omega, z2⟩
        · exact Or.inr ⟨i, c, d, by omega, ⟨hf, hi, rfl⟩, z1, z2⟩
      · rintro (z | ⟨b, c, d, z1, z2, z3⟩)
        · exact Or.inl (Or.inl z)
        · by_cases e : b = i
          · subst e; exact Or.inr ⟨c, d, z3⟩
          · exact Or.inl (Or.inr ⟨b, c, d, by omega, z2, z3⟩)
    · rw [pk_un e, I w hw' j]
      constructor
      · rintro (z | ⟨b, c, d, z1, z2⟩)
        · exact Or.inl z
        · exact Or.inr ⟨b, c, d, by omega, z2⟩
      · rintro (z | ⟨b, c, d, z1, z2, z3⟩)
        · exact Or.inl z
        · by_cases e' : b = i
          · subst e'; exact absurd z2.2.2.symm e
          · exact Or.inr ⟨b, c, d, by omega, z2, z3⟩
def xw_R (st : Nat → Int32) (c : Nat) (u v : Nat) : Prop := bt (st (c + u)) v = true
theorem xw_makeCat {post : SX → Prop} {c1 c2 : Nat} (h1 : c1 + 31 ≤ 186) (h2 : c2 + 31 ≤ 186)
    (hp : ∀ m' : Nat → Int32, (∀ u, u < 31 → ∀ v, bt (m' u) v = true ↔ rl_cat (xw_R st c1) (xw_R st c2) u v) → post (h, s, p, st, iu, m')) : wpX_makeCat post (h, s, p, st, iu, m) (nI c1) (nI c2) := by
  unfold wpX_makeCat
  dsimp only
  refine xw_clear fun m0 hm0 => ?_
  refine loop_0 (fun n i m' => wX_makeCat_6 post (nI c1) (nI c2) h s p n (nI i) st iu m')
    (fun i m' => ∀ w, w < 31 → ∀ j, bt (m' w) j = true ↔ ∃ f b c d, f < i ∧ wn_J f b w ∧ wn_J c d j ∧ bt (st (c1 + f)) c = true ∧ bt (st (c2 + b)) d = true) 31 m0 ?_ ?_ ?_
  · intro w hw j
    rw [hm0 w hw]
    exact ⟨fun z => absurd z (bq_n0 j), fun ⟨f, b, c, d, hb, _⟩ => absurd hb (Nat.not_lt_zero _)⟩
  · intro n m' I
    refine br_t (nI_le (Nat.le_refl 31) (by omega)) (hp m' fun w hw j => (I w hw j).trans ?_)
    exact ⟨fun ⟨f, b, c, d, _, hb⟩ => ⟨f, b, c, d, hb⟩, fun ⟨f, b, c, d, hb⟩ => ⟨f, b, c, d, hb.1.1, hb⟩⟩
  · intro n i m' hi I ih
    refine br_f (nI_ge (b := 31) hi (by decide)) (xw_room hi (xw_mc21 h1 h2 hi fun m2 hm2 => ih m2 fun w hw j => (hm2 w hw j).trans ?_))
    rw [I w hw j]
    constructor
    · rintro (⟨f, b, c, d, z1, z2⟩ | ⟨b, c, d, z2⟩)
      · exact ⟨f, b, c, d, by omega, z2⟩
      · exact ⟨i, b, c, d, by omega, z2⟩
    · rintro ⟨f, b, c, d, z1, z2, z3, z4, z5⟩
      by_cases e : f = i
      · subst e; exact Or.inr ⟨b, c, d, z2, z3, z4, z5⟩
      · exact Or.inl ⟨f, b, c, d, by omega, z2, z3, z4, z5⟩
theorem xw_mt14 {post : SX → Prop} {J6 : Int32 → (Nat → Int32) → (Nat → Int32) → (Nat → Int32) → Prop} {c f : Nat} (h1 : c + 31 ≤ 186) (hf : f < 31)
    (hJ : ∀ m' : Nat → Int32, (∀ w, w < 31 → ∀ j, bt (m' w) j = true ↔ bt (m w) j = true ∨ (j = f ∧ bt (st (c + f)) w = true)) → J6 (nI (f + 1)) st iu m') :
    ∃ n, wX_makeTurn_14 post J6 (nI c) (nI f) h s p n 0 st iu m := by
  refine loop_0 (fun n i m' => wX_makeTurn_14 post J6 (nI c) (nI f) h s p n (nI i) st iu m')
    (fun i m' => ∀ w, w < 31 → ∀ j, bt (m' w) j = true ↔ bt (m w) j = true ∨ (w < i ∧ j = f ∧ bt (st (c + f)) w = true)) 31 m ?_ ?_ ?_
  · intro w _ j
    exact ⟨Or.inl, fun h => h.elim id (fun hb => absurd hb.1 (Nat.not_lt_zero _))⟩
  · intro n m' I
    refine br_t (nI_le (Nat.le_refl 31) (by omega)) (nm_r (nI_1 f) (hJ m' fun w hw j => (I w hw j).trans ?_))
    exact ⟨fun h => h.imp id And.right, fun h => h.imp id (fun z => ⟨hw, z⟩)⟩
  · intro n i m' hi I ih
    refine br_f (nI_ge (b := 31) hi (by decide)) ⟨xw_ii (by omega) (by decide), ?_⟩
    rw [xw_ic (by omega)]
    refine xw_hb hi (fun hb => ⟨vp_in_nI hi (by decide), vp_in_nI hi (by decide), nm_e (nm_r (nI_1 i) (ih _ fun w hw j => ?_))⟩) (fun hb => nm_r (nI_1 i) (ih _ fun w hw j => ?_))
    · rw [nI_clamp (by omega)]
      by_cases e : w = i
      · subst e
        rw [pk_us, bq_set _ (by omega) j, I w hw j]
        constructor
        · rintro ((z | z) | z)
          · exact Or.inl z
          · exact absurd z.1 (Nat.lt_irrefl _)
          · exact Or.inr ⟨by omega, z, hb⟩
        · rintro (z | z)
          · exact Or.inl (Or.inl z)
          · exact Or.inr z.2.1
      · rw [pk_un e, I w hw j]
        exact ⟨fun z => z.imp id (fun z => ⟨by omega, z.2⟩), fun z => z.imp id (fun z => ⟨by omega, z.2⟩)⟩
    · rw [I w hw j]
      refine ⟨fun z => z.imp id (fun z => ⟨by omega, z.2⟩), fun z => z.imp id (fun z => ⟨?_, z.2⟩)⟩
      by_cases e : w = i
      · subst e; exact absurd z.2.2 hb
      · omega
theorem xw_makeTurn {post : SX → Prop} {c : Nat} (h1 : c + 31 ≤ 186)
    (hp : ∀ m' : Nat → Int32, (∀ u, u < 31 → ∀ v, bt (m' u) v = true ↔ v < 31 ∧ xw_R st c v u) → post (h, s, p, st, iu, m')) : wpX_makeTurn post (h, s, p, st, iu, m) (nI c) := by
  unfold wpX_makeTurn
  dsimp only
  refine xw_clear fun m0 hm0 => ?_
  refine loop_0 (fun n i m' => wX_makeTurn_6 post (nI c) h s p n (nI i) st iu m')
    (fun i m' => ∀ w, w < 31 → ∀ j, bt (m' w) j = true ↔ j < i ∧ xw_R st c j w) 31 m0 ?_ ?_ ?_
  · intro w hw j
    rw [hm0 w hw]
    exact ⟨fun z => absurd z (bq_n0 j), fun z => absurd z.1 (Nat.not_lt_zero _)⟩
  · intro n m' I
    exact br_t (nI_le (Nat.le_refl 31) (by omega)) (hp m' I)
  · intro n i m' hi I ih
    refine br_f (nI_ge (b := 31) hi (by decide)) (xw_mt14 h1 hi fun m2 hm2 => ih m2 fun w hw j => (hm2 w hw j).trans ?_)
    rw [I w hw j]
    constructor
    · rintro (z | ⟨rfl, z⟩)
      · exact ⟨by omega, z.2⟩
      · exact ⟨by omega, z⟩
    · rintro ⟨z1, z2⟩
      by_cases e : j = i
      · subst e; exact Or.inr ⟨rfl, z2⟩
      · exact Or.inl ⟨by omega, z2⟩
end XS
end
section
/-! the reference's helpers, each with a general post -/
theorem yw_t1 : ∀ w, w < 31 → ∀ i, i < wn_ln w → ¬ (4 : Int32) ≤ nI i ∧ ¬ nI w < ((1 : Int32) <<< ((nI i + 1) &&& 31)) - 1 := by decide +kernel
theorem yw_t2 : ∀ w, w < 31 → (4 : Int32) ≤ nI (wn_ln w) ∨ nI w < ((1 : Int32) <<< ((nI (wn_ln w) + 1) &&& 31)) - 1 := by decide +kernel
theorem yw_t3 : ∀ w, w < 31 → ∀ p, p < wn_ln w + 1 → (((1 : Int32) <<< (nI p &&& 31)) - 1) + ((nI w - (((1 : Int32) <<< (nI (wn_ln w) &&& 31)) - 1)) >>> ((nI (wn_ln w) - nI p) &&& 31)) = nI (wn_hd w p) := by decide +kernel
theorem yw_t4 : ∀ w, w < 31 → ∀ p, p < wn_ln w + 1 → (((1 : Int32) <<< ((nI (wn_ln w) - nI p) &&& 31)) - 1) + ((nI w - (((1 : Int32) <<< (nI (wn_ln w) &&& 31)) - 1)) &&& (((1 : Int32) <<< ((nI (wn_ln w) - nI p) &&& 31)) - 1)) = nI (wn_tl w p) := by decide +kernel
theorem yw_ix (r u : Nat) : (31 : Int32) * nI r + nI u = nI (31 * r + u) := by
  show nI 31 * nI r + nI u = _
  rw [pk_mul, nI_add]
theorem yw_in {r u : Nat} (h : 31 * r + u < 248) : vp_in ((31 : Int32) * nI r + nI u) 248 := by rw [yw_ix]; exact vp_in_nI h (by decide)
theorem yw_ic {r u : Nat} (h : 31 * r + u < 248) : ((31 : Int32) * nI r + nI u).toNatClampNeg = 31 * r + u := by rw [yw_ix]; exact nI_clamp (by omega)
section YS
variable {d s g : Int32} {a : Nat → Int32}
theorem yw_len {post : Int32 → Prop} {w : Nat} (hw : w < 31) (h : post (nI (wn_ln w))) : wpY_lenOf post (d, s, g, a) (nI w) :=
  loop_0 (fun n i (_ : Unit) => wY_lenOf_2 post (nI w) d s g a n (nI i)) (fun _ _ => True) (wn_ln w) () trivial
    (fun n _ _ => br_c (fun _ => h) (fun z => br_t ((yw_t2 w hw).resolve_left z) h))
    (fun n i _ hi _ ih => br_f (yw_t1 w hw i hi).1 (br_f (yw_t1 w hw i hi).2 (nm_r (nI_1 i) (ih () trivial))))
theorem yw_head {post : Int32 → Prop} {w p : Nat} (hw : w < 31) (hp : p ≤ wn_ln w) (h : post (nI (wn_hd w p))) : wpY_head post (d, s, g, a) (nI w) (nI p) :=
  yw_len hw (nm_e (by rw [yw_t3 w hw p (by omega)]; exact h))
theorem yw_tail {post : Int32 → Prop} {w p : Nat} (hw : w < 31) (hp : p ≤ wn_ln w) (h : post (nI (wn_tl w p))) : wpY_tail post (d, s, g, a) (nI w) (nI p) :=
  yw_len hw (nm_e (nm_e (by rw [yw_t4 w hw p (by omega)]; exact h)))
theorem yw_has {post : Int32 → Prop} {r u v : Nat} (hr : 31 * r + u < 248) (hv : v < 31) (h1 : bt (a (31 * r + u)) v = true → post 1) (h0 : ¬ bt (a (31 * r + u)) v = true → post 0) : wpY_has post (d, s, g, a) (nI r) (nI u) (nI v) := by
  refine ⟨yw_in hr, ?_⟩
  rw [yw_ic hr]
  exact ⟨fun z => h1 ((bq_o _ (by omega)).mp z), fun z => h0 (fun g => z ((bq_o _ (by omega)).mpr g))⟩
theorem yw_hb {A B : Prop} {r u v : Nat} (hr : 31 * r + u < 248) (hv : v < 31) (h1 : bt (a (31 * r + u)) v = true → B) (h0 : ¬ bt (a (31 * r + u)) v = true → A) : wpY_has (fun r => (r = 0 → A) ∧ (¬ r = 0 → B)) (d, s, g, a) (nI r) (nI u) (nI v) :=
  yw_has hr hv (fun z => br_f xw_10 (h1 z)) (fun z => br_t rfl (h0 z))
theorem yw_clear {post : SY → Prop} {r : Nat} (hr : r < 8) (hp : ∀ a' : Nat → Int32, (∀ i, i < 31 → a' (31 * r + i) = 0) → (∀ i, i < 31 * r ∨ 31 * r + 31 ≤ i → a' i = a i) → post (d, s, g, a')) : wpY_clear post (d, s, g, a) (nI r) := by
  refine loop_0 (fun n i a' => wY_clear_2 post (nI r) d s g n (nI i) a') (fun i a' => (∀ k, k < i → a' (31 * r + k) = 0) ∧ (∀ k, k < 31 * r ∨ 31 * r + 31 ≤ k → a' k = a k)) 31 a ⟨(fun k hk => absurd hk (Nat.not_lt_zero _)), fun _ _ => rfl⟩ ?_ ?_
  · intro n a' I
    exact br_t (nI_le (Nat.le_refl 31) (by omega)) (hp a' I.1 I.2)
  · intro n i a' hi I ih
    refine br_f (nI_ge (b := 31) hi (by decide)) ⟨yw_in (by omega), nm_e (nm_r (nI_1 i) (ih _ ⟨fun k hk => ?_, fun k hk => ?_⟩))⟩
    · rw [yw_ic (by omega)]
      by_cases e : k = i
      · subst e; exact pk_us
      · rw [pk_un (by omega)]; exact I.1 k (by omega)
    · rw [yw_ic (by omega), pk_un (by omega)]; exact I.2 k hk
theorem yw_copy {post : SY → Prop} {r r' : Nat} (hr : r < 8) (hr' : r' < 8) (hn : r ≠ r') (hp : ∀ a' : Nat → Int32, (∀ i, i < 31 → a' (31 * r' + i) = a (31 * r + i)) → (∀ i, i < 31 * r' ∨ 31 * r' + 31 ≤ i → a' i = a i) → post (d, s, g, a')) : wpY_copy post (d, s, g, a) (nI r) (nI r') := by
  refine loop_0 (fun n i a' => wY_copy_2 post (nI r) (nI r') d s g n (nI i) a') (fun i a' => (∀ k, k < i → a' (31 * r' + k) = a (31 * r + k)) ∧ (∀ k, k < 31 * r' ∨ 31 * r' + 31 ≤ k → a' k = a k)) 31 a ⟨(fun k hk => absurd hk (Nat.not_lt_zero _)), fun _ _ => rfl⟩ ?_ ?_
  · intro n a' I
    exact br_t (nI_le (Nat.le_refl 31) (by omega)) (hp a' I.1 I.2)
  · intro n i a' hi I ih
    refine br_f (nI_ge (b := 31) hi (by decide)) ⟨yw_in (by omega), yw_in (by omega), nm_e (nm_r (nI_1 i) (ih _ ⟨fun k hk => ?_, fun k hk => ?_⟩))⟩
    · rw [yw_ic (by omega), yw_ic (by omega)]
      by_cases e : k = i
      · subst e; rw [pk_us]; exact I.2 _ (by omega)
      · rw [pk_un (by omega)]; exact I.1 k (by omega)
    · rw [yw_ic (by omega), pk_un (by omega)]; exact I.2 k hk
theorem yw_put {post : SY → Prop} {r u v : Nat} (hr : 31 * r + u < 248) (hp : post (d, s, g, upd a (31 * r + u) (a (31 * r + u) ||| ((1 : Int32) <<< (nI v &&& 31))))) : wpY_put post (d, s, g, a) (nI r) (nI u) (nI v) := by
  refine ⟨yw_in hr, yw_in hr, nm_e ?_⟩
  rw [yw_ic hr]
  exact hp
def yw_A (a : Nat → Int32) (x y u v p q : Nat) : Prop := (0 < p + q ∨ y ≠ 7) ∧ bt (a (31 * x + wn_hd u p)) (wn_hd v q) = true ∧ bt (a (31 * y + wn_tl u p)) (wn_tl v q) = true
def yw_C (a : Nat → Int32) (x y u v : Nat) : Prop := ∃ p q, p ≤ wn_ln u ∧ q ≤ wn_ln v ∧ yw_A a x y u v p q
theorem yw_c55 {post J29 : Int32 → Prop} {x5 x8 z0 : Int32} {x y u v p q : Nat} (hx : x < 8) (hy : y < 8) (hu : u < 31) (hv : v < 31) (hp : p ≤ wn_ln u) (hq : q ≤ wn_ln v)
    (h1 : ¬ z0 = 0 → bt (a (31 * x + wn_hd u p)) (wn_hd v q) = true → bt (a (31 * y + wn_tl u p)) (wn_tl v q) = true → post 1)
    (h0 : ¬ (¬ z0 = 0 ∧ bt (a (31 * x + wn_hd u p)) (wn_hd v q) = true ∧ bt (a (31 * y + wn_tl u p)) (wn_tl v q) = true) → J29 (nI (q + 1))) :
    wY_cutsAt_55 post J29 (nI x) (nI y) (nI v) x5 (nI (wn_hd u p)) (nI (wn_tl u p)) x8 (nI q) z0 d s g a := by
  have tu := wn_t2 u hu p (by omega)
  have tv := wn_t2 v hv q (by omega)
  refine yw_head hv hq ?_
  refine yw_tail hv hq ?_
  refine br_c (fun z => nm_r (nI_1 q) (h0 fun c => c.1 z)) (fun z => ?_)
  refine yw_hb (by omega) tv.1 (fun k1 => ?_) (fun k1 => nm_r (nI_1 q) (h0 fun c => k1 c.2.1))
  exact yw_hb (by omega) tv.2.2.2 (fun k2 => h1 z k1 k2) (fun k2 => nm_r (nI_1 q) (h0 fun c => k2 c.2.2))
theorem yw_cutsAt {post : Int32 → Prop} {x y u v p : Nat} (hx : x < 8) (hy : y < 8) (hu : u < 31) (hv : v < 31) (hp : p ≤ wn_ln u)
    (h1 : (∃ q, q ≤ wn_ln v ∧ yw_A a x y u v p q) → post 1) (h0 : (¬ ∃ q, q ≤ wn_ln v ∧ yw_A a x y u v p q) → post 0) : wpY_cutsAt post (d, s, g, a) (nI x) (nI y) (nI u) (nI v) (nI p) := by
  have lu := (wn_t5 u hu).2
  have lv := (wn_t5 v hv).2
  unfold wpY_cutsAt
  dsimp only
  refine yw_head hu hp ?_
  refine yw_tail hu hp ?_
  refine yw_len hv ?_
  refine loop_0 (fun n i (_ : Unit) => wY_cutsAt_29 post (nI x) (nI y) (nI v) (nI p) (nI (wn_hd u p)) (nI (wn_tl u p)) (nI (wn_ln v)) d s g a n (nI i)) (fun i _ => ∀ q, q < i → ¬ yw_A a x y u v p q) (wn_ln v + 1) () (fun q hq => absurd hq (Nat.not_lt_zero _)) ?_ ?_
  · intro n _ I
    exact br_t (nI_lt (by omega) (by omega)) (h0 fun ⟨q, hq, hA⟩ => I q (by omega) hA)
  · intro n i _ hi I ih
    have st : ¬ yw_A a x y u v p i → wY_cutsAt_29 post (nI x) (nI y) (nI v) (nI p) (nI (wn_hd u p)) (nI (wn_tl u p)) (nI (wn_ln v)) d s g a n (nI (i + 1)) := fun hA => ih () (lt_s I hA)
    have k50 : (0 < p + i ∨ y ≠ 7) → wY_cutsAt_55 post (wY_cutsAt_29 post (nI x) (nI y) (nI v) (nI p) (nI (wn_hd u p)) (nI (wn_tl u p)) (nI (wn_ln v)) d s g a n) (nI x) (nI y) (nI v) (nI p) (nI (wn_hd u p)) (nI (wn_tl u p)) (nI (wn_ln v)) (nI i) 1 d s g a := fun hs =>
      yw_c55 hx hy hu hv hp (by omega) (fun _ b1 b2 => h1 ⟨i, by omega, hs, b1, b2⟩) (fun c => st fun hA => c ⟨xw_10, hA.2⟩)
    refine br_f (nI_nlt (by omega) (by omega)) ?_
    rw [nI_add]
    refine pk_lt 0 (p + i) (fun hs => k50 (Or.inl hs)) (fun hs => ?_)
    refine pk_eq y 7 (fun hy7 => ?_) (fun hy7 => k50 (Or.inr hy7))
    exact yw_c55 hx hy hu hv hp (by omega) (fun z => absurd rfl z) (fun _ => st fun hA => hA.1.elim (fun z => by omega) (fun z => z hy7))
theorem yw_cuts {post : Int32 → Prop} {x y u v : Nat} (hx : x < 8) (hy : y < 8) (hu : u < 31) (hv : v < 31)
    (h1 : yw_C a x y u v → post 1) (h0 : ¬ yw_C a x y u v → post 0) : wpY_cuts post (d, s, g, a) (nI x) (nI y) (nI u) (nI v) := by
  have lu := (wn_t5 u hu).2
  unfold wpY_cuts
  dsimp only
  refine yw_len hu ?_
  refine loop_0 (fun n i (_ : Unit) => wY_cuts_10 post (nI x) (nI y) (nI u) (nI v) (nI (wn_ln u)) d s g a n (nI i)) (fun i _ => ∀ p, p < i → ¬ ∃ q, q ≤ wn_ln v ∧ yw_A a x y u v p q) (wn_ln u + 1) () (fun q hq => absurd hq (Nat.not_lt_zero _)) ?_ ?_
  · intro n _ I
    exact br_t (nI_lt (by omega) (by omega)) (h0 fun ⟨p, q, hp, hq, hA⟩ => I p (by omega) ⟨q, hq, hA⟩)
  · intro n i _ hi I ih
    refine br_f (nI_nlt (by omega) (by omega)) ?_
    exact yw_cutsAt hx hy hu hv (by omega) (fun ⟨q, hq, hA⟩ => br_f xw_10 (h1 ⟨i, q, by omega, hq, hA⟩)) (fun c => br_t rfl (nm_r (nI_1 i) (ih () (lt_s I c))))
theorem yw_C_ct1 {x u v : Nat} (hu : u < 31) (hv : v < 31) : yw_C a x 7 u v ↔ rl_ct1 (xw_R a (31 * x)) (xw_R a (31 * 7)) u v := by
  constructor
  · rintro ⟨p, q, hp, hq, h1, h2, h3⟩
    refine ⟨_, _, _, _, wn_Jc hu hp, wn_Jc hv hq, ?_, h2, h3⟩
    have e1 := wn_t2p u hu p (by omega)
    have e2 := wn_t2p v hv q (by omega)
    omega
  · rintro ⟨e, b, c, f, h1, h2, h3, h4, h5⟩
    obtain ⟨p, hp, rfl, rfl⟩ := wn_Jp h1
    obtain ⟨q, hq, rfl, rfl⟩ := wn_Jp h2
    refine ⟨p, q, hp, hq, ?_, h4, h5⟩
    have e1 := wn_t2p u hu p (by omega)
    have e2 := wn_t2p v hv q (by omega)
    omega
theorem yw_C_cat {x y u v : Nat} (hy : y ≠ 7) (hu : u < 31) (hv : v < 31) : yw_C a x y u v ↔ rl_cat (xw_R a (31 * x)) (xw_R a (31 * y)) u v := by
  constructor
  · rintro ⟨p, q, hp, hq, h1, h2, h3⟩
    exact ⟨_, _, _, _, wn_Jc hu hp, wn_Jc hv hq, h2, h3⟩
  · rintro ⟨e, b, c, f, h1, h2, h4, h5⟩
    obtain ⟨p, hp, rfl, rfl⟩ := wn_Jp h1
    obtain ⟨q, hq, rfl, rfl⟩ := wn_Jp h2
    exact ⟨p, q, hp, hq, Or.inr hy, h4, h5⟩
end YS
end
section
/-- both keep the same counts, the same rows on the stack and the same relation in use -/
def i_Rel (_ : Nat) (u : SX) (v : SY) : Prop := ∃ (h s p : Nat) (st iu m a : Nat → Int32), h ≤ 6 ∧ s ≤ 18 ∧ p ≤ 9 ∧ u = (nI h, nI s, nI p, st, iu, m) ∧ v = (nI h, nI s, nI p, a) ∧ (∀ i, i < 31 * h → a i = st i) ∧ (∀ i, i < 31 → a (186 + i) = iu i)
theorem i_up {k : Nat} {u : SX} {v : SY} (h : i_Rel k u v) : i_Rel (k + 5) u v := h
theorem i_vc0 : wpX_init (fun u => wpY_init (fun v => i_Rel 0 u v)) :=
  ⟨0, 0, 0, fun _ => 0, fun _ => 0, fun _ => 0, fun _ => 0, by decide, by decide, by decide, rfl, rfl, fun _ _ => rfl, fun _ _ => rfl⟩
theorem i_vc_steps {k : Nat} {u : SX} {v : SY} (I : i_Rel k u v) (hk : k + 5 ≤ 2560) : wpX_steps (fun r => wpY_steps (fun r' => r' = r ∧ i_Rel (k + 5) u v) v) u := by
  have J := I
  obtain ⟨h, s, p, st, iu, m, a, h1, h2, h3, rfl, rfl, hs, hu⟩ := I
  exact ⟨rfl, J⟩
theorem i_vc_depth {k : Nat} {u : SX} {v : SY} (I : i_Rel k u v) (hk : k + 5 ≤ 2560) : wpX_depth (fun r => wpY_depth (fun r' => r' = r ∧ i_Rel (k + 5) u v) v) u := by
  have J := I
  obtain ⟨h, s, p, st, iu, m, a, h1, h2, h3, rfl, rfl, hs, hu⟩ := I
  exact ⟨rfl, J⟩
theorem i_vc_discard {k : Nat} {u : SX} {v : SY} (I : i_Rel k u v) (hk : k + 5 ≤ 2560) : wpX_discard (fun u' => wpY_discard (fun v' => i_Rel (k + 5) u' v') v) u := by
  obtain ⟨h, s, p, st, iu, m, a, h1, h2, h3, rfl, rfl, hs, hu⟩ := I
  exact ⟨0, 0, 0, st, iu, m, a, by decide, by decide, by decide, rfl, rfl, fun i hi => absurd hi (by omega), hu⟩
/-! define -/
theorem i_vc_define {k : Nat} {u : SX} {v : SY} (I : i_Rel k u v) (hk : k + 5 ≤ 2560) : wpX_define (fun r u' => wpY_define (fun r' v' => r' = r ∧ i_Rel (k + 5) u' v') v) u := by
  have J := I
  obtain ⟨h, s, p, st, iu, m, a, h1, h2, h3, rfl, rfl, hs, hu⟩ := I
  unfold wpX_define
  dsimp only
  refine pk_le 1 h (fun hh => ?_) (fun hh => ?_)
  · obtain ⟨d, rfl⟩ : ∃ d, h = d + 1 := ⟨h - 1, by omega⟩
    refine xw_top ?_
    refine loop_0 (fun n i iu' => wX_define_18 (fun r u' => wpY_define (fun r' v' => r' = r ∧ i_Rel (k + 5) u' v') (nI (d + 1), nI s, nI p, a)) (nI (31 * d)) (nI (d + 1)) (nI s) (nI p) n (nI i) st iu' m) (fun i iu' => ∀ k, k < i → iu' k = st (31 * d + k)) 31 iu (fun k hk => absurd hk (Nat.not_lt_zero _)) ?_ ?_
    · intro n iu' I
      refine br_t (nI_le (Nat.le_refl 31) (by omega)) ?_
      unfold wpX_emptyStack wpY_define
      dsimp only
      refine br_f (nI_ne0 (by omega) (by omega)) ?_
      rw [nI_pred]
      refine yw_copy (r := d) (r' := 6) (by omega) (by decide) (by omega) fun a' e1 e2 => ?_
      exact ⟨rfl, 0, 0, 0, st, iu', m, a', by decide, by decide, by decide, rfl, rfl, fun i hi => absurd hi (by omega), fun i hi => (e1 i hi).trans ((hs _ (by omega)).trans (I i hi).symm)⟩
    · intro n i iu' hi I ih
      refine br_f (nI_ge (b := 31) hi (by decide)) ⟨xw_ii (by omega) (by decide), vp_in_nI hi (by decide), nm_e (nm_r (nI_1 i) (ih _ fun k hk => ?_))⟩
      rw [xw_ic (by omega), nI_clamp (by omega)]
      by_cases e : k = i
      · subst e; exact pk_us
      · rw [pk_un e]; exact I k (by omega)
  · obtain rfl : h = 0 := by omega
    exact br_t rfl ⟨rfl, J⟩
/-! pair -/
def wn_lw (x : Nat) : Nat := if x = 2 then 0 else x + 1
theorem xw_lt1 : ∀ x, x < 3 → ¬ x = 2 → (((1 : Int32) <<< ((1 : Int32) &&& 31)) - 1) + nI x = nI (wn_lw x) := by decide +kernel
theorem yw_lt1 : ∀ x, x < 3 → ¬ x = 2 → (1 : Int32) + nI x = nI (wn_lw x) := by decide +kernel
theorem wn_lwlt : ∀ x, x < 3 → wn_lw x < 3 := by decide +kernel
theorem xw_letter {post : Int32 → Prop} {x : Nat} (hx : x < 3) (h : post (nI (wn_lw x))) : wpX_letterWord post (nI x) := by
  refine pk_eq x 2 (fun e => ?_) (fun e => ?_)
  · subst e; exact h
  · unfold wpX_wordNumber
    rw [xw_lt1 x hx e]; exact h
theorem xw_pair {post : Int32 → SX → Prop} {x y h s p : Nat} {st iu m : Nat → Int32} (hx : x < 3) (hy : y < 3) (hh : h < 6) (hs : s < 18) (hp : p < 9)
    (H : ∀ st' m' : Nat → Int32, (∀ i, i < 31 → st' (31 * h + i) = if i = wn_lw x then (1 : Int32) <<< (nI (wn_lw y) &&& 31) else 0) → (∀ i, i < 31 * h ∨ 31 * h + 31 ≤ i → st' i = st i) → post (nI (h + 1)) (nI (h + 1), nI (s + 1), nI (p + 1), st', iu, m')) :
    wpX_pair post (nI h, nI s, nI p, st, iu, m) (nI x) (nI y) := by
  have lx := wn_lwlt x hx
  unfold wpX_pair
  dsimp only
  refine br_f (nI_pos (by omega)) (br_f (nI_nlt (a := 2) (by omega) (by omega)) (br_f (nI_pos (by omega)) (br_t (nI_le (b := 2) (by omega) (by decide)) (br_f (nI_ge (b := 18) hs (by decide)) (br_f (nI_ge (b := 6) hh (by decide)) (br_t (nI_lt (b := 9) hp (by decide)) ?_))))))
  refine xw_letter hx ?_
  refine xw_letter hy ?_
  refine xw_clear fun m0 hm0 => ?_
  refine ⟨vp_in_nI (by omega) (by decide), nm_e (nm_r (nI_1 h) (nm_r (nI_1 p) ?_))⟩
  refine xw_put hh fun st' e1 e2 => ?_
  rw [nI_1 s]
  refine H st' _ (fun i hi => ?_) e2
  rw [e1 i hi, nI_clamp (by omega)]
  show (if i = wn_lw x then _ else m0 i) = _
  rw [hm0 i hi]
theorem yw_pair {post : Int32 → SY → Prop} {x y h s p : Nat} {a : Nat → Int32} (hx : x < 3) (hy : y < 3) (hh : h < 6) (hs : s < 18) (hp : p < 9)
    (H : ∀ a' : Nat → Int32, (∀ i, i < 31 → a' (31 * h + i) = if i = wn_lw x then (1 : Int32) <<< (nI (wn_lw y) &&& 31) else 0) → (∀ i, i < 31 * h ∨ 31 * h + 31 ≤ i → a' i = a i) → post (nI (h + 1)) (nI (h + 1), nI (s + 1), nI (p + 1), a')) :
    wpY_pair post (nI h, nI s, nI p, a) (nI x) (nI y) := by
  have lx := wn_lwlt x hx
  have ly := wn_lwlt y hy
  unfold wpY_pair
  dsimp only
  refine br_f (nI_pos (by omega)) (br_f (nI_nlt (a := 2) (by omega) (by omega)) (br_f (nI_pos (by omega)) (br_t (nI_le (b := 2) (by omega) (by decide)) (pk_eq s 18 (fun z => by omega) (fun _ => pk_eq h 6 (fun z => by omega) (fun _ => pk_eq p 9 (fun z => by omega) (fun _ => ?_)))))))
  refine yw_clear (by omega) fun a0 z1 z2 => ?_
  have K : wY_pair_87 post (nI (wn_lw y)) (nI (wn_lw x)) (nI h) (nI h) (nI s) (nI p) a0 := by
    refine yw_put (by omega) ?_
    refine nm_r (nI_1 s) (nm_r (nI_1 p) (nm_r (nI_1 h) (H _ (fun i hi => ?_) (fun i hi => ?_))))
    · by_cases e : i = wn_lw x
      · subst e
        rw [pk_us, if_pos rfl, z1 _ hi]
        exact Int32.zero_or
      · rw [pk_un (by omega), if_neg e, z1 i hi]
    · rw [pk_un (by omega), z2 i hi]
  have K2 : wY_pair_75 post (nI y) (nI (wn_lw x)) (nI h) (nI h) (nI s) (nI p) a0 := by
    refine pk_eq y 2 (fun e => ?_) (fun e => ?_)
    · subst e; exact K
    · rw [yw_lt1 y hy e]; exact K
  refine pk_eq x 2 (fun e => ?_) (fun e => ?_)
  · subst e; exact K2
  · rw [yw_lt1 x hx e]; exact K2
theorem i_vc_pair {k : Nat} {u : SX} {v : SY} (I : i_Rel k u v) (hk : k + 5 ≤ 2560) (v1 : Int32) (v2 : Int32) : wpX_pair (fun r u' => wpY_pair (fun r' v' => r' = r ∧ i_Rel (k + 5) u' v') v v1 v2) u v1 v2 := by
  have J := I
  obtain ⟨h, s, p, st, iu, m, a, h1, h2, h3, rfl, rfl, hs, hu⟩ := I
  by_cases a1 : v1 < 0
  · exact br_t a1 (br_t a1 ⟨rfl, J⟩)
  by_cases a2 : 2 < v1
  · exact br_f a1 (br_t a2 (br_f a1 (br_t a2 ⟨rfl, J⟩)))
  by_cases a3 : v2 < 0
  · exact br_f a1 (br_f a2 (br_t a3 (br_f a1 (br_f a2 (br_t a3 ⟨rfl, J⟩)))))
  by_cases a4 : v2 ≤ 2
  rotate_left
  · exact br_f a1 (br_f a2 (br_f a3 (br_f a4 (br_f a1 (br_f a2 (br_f a3 (br_f a4 ⟨rfl, J⟩)))))))
  by_cases b1 : s = 18
  · subst b1
    exact br_f a1 (br_f a2 (br_f a3 (br_t a4 (br_t (by decide) (br_f a1 (br_f a2 (br_f a3 (br_t a4 (br_t rfl ⟨rfl, J⟩)))))))))
  have c1 : ¬ (18 : Int32) ≤ nI s := nI_ge (b := 18) (by omega) (by decide)
  have d1 : ¬ nI s = 18 := fun z => b1 ((nI_eq (b := 18) (by omega) (by decide)).mp z)
  by_cases b2 : h = 6
  · subst b2
    exact br_f a1 (br_f a2 (br_f a3 (br_t a4 (br_f c1 (br_t (by decide) (br_f a1 (br_f a2 (br_f a3 (br_t a4 (br_f d1 (br_t rfl ⟨rfl, J⟩)))))))))))
  have c2 : ¬ (6 : Int32) ≤ nI h := nI_ge (b := 6) (by omega) (by decide)
  have d2 : ¬ nI h = 6 := fun z => b2 ((nI_eq (b := 6) (by omega) (by decide)).mp z)
  by_cases b3 : p = 9
  · subst b3
    exact br_f a1 (br_f a2 (br_f a3 (br_t a4 (br_f c1 (br_f c2 (br_f (by decide) (br_f a1 (br_f a2 (br_f a3 (br_t a4 (br_f d1 (br_f d2 (br_t rfl ⟨rfl, J⟩)))))))))))))
  obtain ⟨x, hx, rfl⟩ := nI_of2 (M := 2) (n := 2) (by decide) a1 (Int32.not_lt.mp a2)
  obtain ⟨y, hy, rfl⟩ := nI_of2 (M := 2) (n := 2) (by decide) a3 a4
  refine xw_pair (by omega) (by omega) (by omega) (by omega) (by omega) fun st' m' e1 e2 => ?_
  refine yw_pair (by omega) (by omega) (by omega) (by omega) (by omega) fun a' f1 f2 => ?_
  refine ⟨rfl, h + 1, s + 1, p + 1, st', iu, m', a', by omega, by omega, by omega, rfl, rfl, fun i hi => ?_, fun i hi => ?_⟩
  · by_cases z : i < 31 * h
    · rw [e2 i (Or.inl z), f2 i (Or.inl z)]; exact hs i z
    · obtain ⟨j, rfl⟩ : ∃ j, i = 31 * h + j := ⟨i - 31 * h, by omega⟩
      rw [e1 j (by omega), f1 j (by omega)]
  · rw [f2 _ (Or.inr (by omega))]; exact hu i hi
/-! alt -/
theorem xw_alt {post : Int32 → SX → Prop} {d s : Nat} {p : Int32} {st iu m : Nat → Int32} (hd : d + 2 ≤ 6) (hs : s < 18)
    (H : ∀ st' m' : Nat → Int32, (∀ i, i < 31 → st' (31 * d + i) = st (31 * d + i) ||| st (31 * (d + 1) + i)) → (∀ i, i < 31 * d ∨ 31 * d + 31 ≤ i → st' i = st i) → post (nI (d + 1)) (nI (d + 1), nI (s + 1), p, st', iu, m')) :
    wpX_alt post (nI (d + 2), nI s, p, st, iu, m) := by
  unfold wpX_alt
  dsimp only
  refine br_t (nI_lt (b := 18) hs (by decide)) (br_t (nI_le (a := 2) (by omega) (by omega)) ?_)
  refine xw_top ?_
  refine nm_r (show nI (31 * (d + 1)) - nI 31 = nI (31 * d) by rw [pk_sub (by omega)]; congr 1) ?_
  refine loop_0 (fun n i m' => wX_alt_35 post (nI (31 * (d + 1))) (nI (31 * d)) (nI (d + 2)) (nI s) p n (nI i) st iu m') (fun i m' => ∀ k, k < i → m' k = st (31 * d + k) ||| st (31 * (d + 1) + k)) 31 m (fun k hk => absurd hk (Nat.not_lt_zero _)) ?_ ?_
  · intro n m' I
    refine br_t (nI_le (Nat.le_refl 31) (by omega)) (nm_r (nI_pred (d + 1)) ?_)
    refine xw_put (by omega) fun st' e1 e2 => ?_
    rw [nI_1 s]
    exact H st' m' (fun i hi => (e1 i hi).trans (I i hi)) e2
  · intro n i m' hi I ih
    refine br_f (nI_ge (b := 31) hi (by decide)) ⟨xw_ii (by omega) (by decide), xw_ii (by omega) (by decide), vp_in_nI hi (by decide), nm_e (nm_r (nI_1 i) (ih _ fun k hk => ?_))⟩
    rw [xw_ic (by omega), xw_ic (by omega), nI_clamp (by omega)]
    by_cases e : k = i
    · subst e; exact pk_us
    · rw [pk_un e]; exact I k (by omega)
theorem yw_tpOk {d s : Nat} {p : Int32} {a : Nat → Int32} {f : Int32 → Prop} (hd : d + 2 ≤ 6) (hs : s < 18) (h : f 0) : wpY_testPair f (nI (d + 2), nI s, p, a) :=
  pk_eq s 18 (fun z => by omega) (fun _ => br_t (nI_le (a := 2) (by omega) (by omega)) h)
theorem yw_tpFull {d p : Int32} {a : Nat → Int32} {f : Int32 → Prop} (h : f (-2)) : wpY_testPair f (d, nI 18, p, a) := br_t rfl h
theorem yw_tpFew {d s : Nat} {p : Int32} {a : Nat → Int32} {f : Int32 → Prop} (hd : d < 2) (hs : s < 18) (h : f (-3)) : wpY_testPair f (nI d, nI s, p, a) :=
  pk_eq s 18 (fun z => by omega) (fun _ => br_f (nI_ge (b := 2) hd (by decide)) h)
theorem yw_toOk {d s : Nat} {p : Int32} {a : Nat → Int32} {f : Int32 → Prop} (hd : d + 1 ≤ 6) (hs : s < 18) (h : f 0) : wpY_testOne f (nI (d + 1), nI s, p, a) :=
  pk_eq s 18 (fun z => by omega) (fun _ => br_f (nI_ne0 (by omega) (by omega)) h)
theorem yw_toFull {d p : Int32} {a : Nat → Int32} {f : Int32 → Prop} (h : f (-2)) : wpY_testOne f (d, nI 18, p, a) := br_t rfl h
theorem yw_toFew {s : Nat} {p : Int32} {a : Nat → Int32} {f : Int32 → Prop} (hs : s < 18) (h : f (-3)) : wpY_testOne f (nI 0, nI s, p, a) :=
  pk_eq s 18 (fun z => by omega) (fun _ => br_t rfl h)
theorem yw_alt {post : Int32 → SY → Prop} {d s : Nat} {p : Int32} {a : Nat → Int32} (hd : d + 2 ≤ 6) (hs : s < 18)
    (H : ∀ a' : Nat → Int32, (∀ i, i < 31 → a' (31 * d + i) = a (31 * d + i) ||| a (31 * (d + 1) + i)) → (∀ i, i < 31 * d ∨ 31 * d + 31 ≤ i → a' i = a i) → post (nI (d + 1)) (nI (d + 1), nI (s + 1), p, a')) :
    wpY_alt post (nI (d + 2), nI s, p, a) := by
  unfold wpY_alt
  dsimp only
  refine yw_tpOk hd hs ?_
  refine br_t (by decide) (nm_r (nI_1 s) (nm_r (nI_pred (d + 1)) ?_))
  refine loop_0 (fun n i a' => wY_alt_33 post (nI (d + 1)) (nI (s + 1)) p n (nI i) a') (fun i a' => (∀ k, k < i → a' (31 * d + k) = a (31 * d + k) ||| a (31 * (d + 1) + k)) ∧ (∀ k, k < 31 * d + i → i ≤ k - 31 * d → a' k = a k) ∧ (∀ k, k < 31 * d ∨ 31 * d + i ≤ k → a' k = a k)) 31 a ⟨(fun k hk => absurd hk (Nat.not_lt_zero _)), fun _ _ _ => rfl, fun _ _ => rfl⟩ ?_ ?_
  · intro n a' I
    exact br_t (nI_le (Nat.le_refl 31) (by omega)) (H a' I.1 I.2.2)
  · intro n i a' hi I ih
    refine br_f (nI_ge (b := 31) hi (by decide)) ?_
    rw [nI_pred]
    refine ⟨yw_in (by omega), yw_in (by omega), yw_in (by omega), nm_e (nm_r (nI_1 i) (ih _ ?_))⟩
    rw [yw_ic (by omega), yw_ic (by omega)]
    refine ⟨fun k hk => ?_, fun k hk hk' => ?_, fun k hk => ?_⟩
    · by_cases e : k = i
      · subst e; rw [pk_us, I.2.2 _ (by omega), I.2.2 _ (by omega)]
      · rw [pk_un (by omega)]; exact I.1 k (by omega)
    · rw [pk_un (by omega)]; exact I.2.2 k (by omega)
    · rw [pk_un (by omega)]; exact I.2.2 k (by omega)
theorem iv_two {k : Nat} {d s p : Nat} {st iu m a st' m' a' : Nat → Int32} {P : Nat → Nat → Prop} (hd : d < 6) (hs : s < 18) (hp : p ≤ 9)
    (h1 : ∀ i, i < 31 * d → a i = st i) (hu : ∀ i, i < 31 → a (186 + i) = iu i)
    (e1 : ∀ i, i < 31 → st' (31 * d + i) = a' (31 * d + i)) (e2 : ∀ i, i < 31 * d ∨ 31 * d + 31 ≤ i → st' i = st i)
    (f2 : ∀ i, i < 31 * d ∨ (31 * d + 31 ≤ i ∧ i < 217) → a' i = a i) :
    i_Rel (k + 5) (nI (d + 1), nI (s + 1), nI p, st', iu, m') (nI (d + 1), nI (s + 1), nI p, a') := by
  refine ⟨d + 1, s + 1, p, st', iu, m', a', by omega, by omega, by omega, rfl, rfl, fun i hi => ?_, fun i hi => ?_⟩
  · by_cases z : i < 31 * d
    · rw [e2 i (Or.inl z), f2 i (Or.inl z)]; exact h1 i z
    · obtain ⟨j, rfl⟩ : ∃ j, i = 31 * d + j := ⟨i - 31 * d, by omega⟩
      exact (e1 j (by omega)).symm
  · rw [f2 _ (Or.inr (by omega))]; exact hu i hi
theorem yw_altFull {post : Int32 → SY → Prop} {d p : Int32} {a : Nat → Int32} (h : post (-2) (d, nI 18, p, a)) : wpY_alt post (d, nI 18, p, a) := by
  unfold wpY_alt
  dsimp only
  refine yw_tpFull ?_
  exact br_f (by decide) h
theorem yw_altFew {post : Int32 → SY → Prop} {d s : Nat} {p : Int32} {a : Nat → Int32} (hd : d < 2) (hs : s < 18) (h : post (-3) (nI d, nI s, p, a)) : wpY_alt post (nI d, nI s, p, a) := by
  unfold wpY_alt
  dsimp only
  refine yw_tpFew hd hs ?_
  exact br_f (by decide) h
theorem yw_catFull {post : Int32 → SY → Prop} {d p : Int32} {a : Nat → Int32} (h : post (-2) (d, nI 18, p, a)) : wpY_cat post (d, nI 18, p, a) := by
  unfold wpY_cat
  dsimp only
  refine yw_tpFull ?_
  exact br_f (by decide) h
theorem yw_catFew {post : Int32 → SY → Prop} {d s : Nat} {p : Int32} {a : Nat → Int32} (hd : d < 2) (hs : s < 18) (h : post (-3) (nI d, nI s, p, a)) : wpY_cat post (nI d, nI s, p, a) := by
  unfold wpY_cat
  dsimp only
  refine yw_tpFew hd hs ?_
  exact br_f (by decide) h
theorem yw_starFull {post : Int32 → SY → Prop} {d p : Int32} {a : Nat → Int32} (h : post (-2) (d, nI 18, p, a)) : wpY_star post (d, nI 18, p, a) := by
  unfold wpY_star
  dsimp only
  refine yw_toFull ?_
  exact br_f (by decide) h
theorem yw_starFew {post : Int32 → SY → Prop} {s : Nat} {p : Int32} {a : Nat → Int32} (hs : s < 18) (h : post (-3) (nI 0, nI s, p, a)) : wpY_star post (nI 0, nI s, p, a) := by
  unfold wpY_star
  dsimp only
  refine yw_toFew hs ?_
  exact br_f (by decide) h
theorem yw_turnFull {post : Int32 → SY → Prop} {d p : Int32} {a : Nat → Int32} (h : post (-2) (d, nI 18, p, a)) : wpY_turn post (d, nI 18, p, a) := by
  unfold wpY_turn
  dsimp only
  refine yw_toFull ?_
  exact br_f (by decide) h
theorem yw_turnFew {post : Int32 → SY → Prop} {s : Nat} {p : Int32} {a : Nat → Int32} (hs : s < 18) (h : post (-3) (nI 0, nI s, p, a)) : wpY_turn post (nI 0, nI s, p, a) := by
  unfold wpY_turn
  dsimp only
  refine yw_toFew hs ?_
  exact br_f (by decide) h
theorem i_vc_alt {k : Nat} {u : SX} {v : SY} (I : i_Rel k u v) (hk : k + 5 ≤ 2560) : wpX_alt (fun r u' => wpY_alt (fun r' v' => r' = r ∧ i_Rel (k + 5) u' v') v) u := by
  have J := I
  obtain ⟨h, s, p, st, iu, m, a, h1, h2, h3, rfl, rfl, hs, hu⟩ := I
  by_cases b1 : s = 18
  · subst b1
    exact br_f (by decide) (yw_altFull ⟨rfl, J⟩)
  by_cases b2 : h < 2
  · exact br_t (nI_lt (b := 18) (by omega) (by decide)) (br_f (nI_ge (b := 2) b2 (by decide)) (yw_altFew b2 (by omega) ⟨rfl, J⟩))
  obtain ⟨d, rfl⟩ : ∃ d, h = d + 2 := ⟨h - 2, by omega⟩
  refine xw_alt h1 (by omega) fun st' m' e1 e2 => ?_
  refine yw_alt h1 (by omega) fun a' f1 f2 => ⟨rfl, ?_⟩
  refine iv_two (P := fun _ _ => True) (a := a) (st := st) (m := m) (by omega) (by omega) h3 (fun i hi => hs i (by omega)) hu (fun i hi => ?_) e2 (fun i hi => f2 i (by omega))
  rw [e1 i hi, f1 i hi, hs _ (by omega), hs _ (by omega)]
end
section
/-! cat -/
theorem xw_Rc {a a' : Nat → Int32} {c c' : Nat} (h : ∀ i, i < 31 → a' (c' + i) = a (c + i)) : ∀ u, u < 31 → ∀ v, v < 31 → (xw_R a' c' u v ↔ xw_R a c u v) := by
  intro u hu v _
  unfold xw_R
  rw [h u hu]
theorem rl_catc {R S R' S' : Nat → Nat → Prop} (hR : ∀ u, u < 31 → ∀ v, v < 31 → (R u v ↔ R' u v)) (hS : ∀ u, u < 31 → ∀ v, v < 31 → (S u v ↔ S' u v)) (u v : Nat) : rl_cat R S u v ↔ rl_cat R' S' u v :=
  ⟨rl_cat_mono (fun u hu v hv h => (hR u hu v hv).mp h) (fun u hu v hv h => (hS u hu v hv).mp h), rl_cat_mono (fun u hu v hv h => (hR u hu v hv).mpr h) (fun u hu v hv h => (hS u hu v hv).mpr h)⟩
theorem xw_cat {post : Int32 → SX → Prop} {d s : Nat} {p : Int32} {st iu m : Nat → Int32} (hd : d + 2 ≤ 6) (hs : s < 18)
    (H : ∀ st' m' : Nat → Int32, (∀ i, i < 31 → ∀ v, bt (st' (31 * d + i)) v = true ↔ rl_cat (xw_R st (31 * d)) (xw_R st (31 * (d + 1))) i v) → (∀ i, i < 31 * d ∨ 31 * d + 31 ≤ i → st' i = st i) → post (nI (d + 1)) (nI (d + 1), nI (s + 1), p, st', iu, m')) :
    wpX_cat post (nI (d + 2), nI s, p, st, iu, m) := by
  unfold wpX_cat
  dsimp only
  refine br_t (nI_lt (b := 18) hs (by decide)) (br_t (nI_le (a := 2) (by omega) (by omega)) ?_)
  refine xw_top ?_
  rw [show nI (31 * (d + 1)) - 31 = nI (31 * d) from (pk_sub (b := 31) (by omega)).trans (congrArg nI (by omega))]
  refine xw_makeCat (by omega) (by omega) fun m' hm => ?_
  refine nm_r (nI_pred (d + 1)) ?_
  refine xw_put (by omega) fun st' e1 e2 => ?_
  rw [nI_1 s]
  exact H st' m' (fun i hi v => by rw [e1 i hi]; exact hm i hi v) e2
theorem yw_ct30 {post : Int32 → SY → Prop} {J : Int32 → (Nat → Int32) → Prop} {d u : Nat} {s p : Int32} {a : Nat → Int32} (hd : d + 2 ≤ 6) (hu : u < 31)
    (H : ∀ row : Int32, (∀ v, bt row v = true ↔ rl_cat (xw_R a (31 * d)) (xw_R a (31 * (d + 1))) u v) → J (nI (u + 1)) (upd a (217 + u) row)) :
    ∃ n, wY_cat_30 post J (nI u) (nI (d + 2)) s p a n 0 0 := by
  have e2 : nI (d + 2) - 2 = nI d := pk_sub (a := d + 2) (b := 2) (by omega)
  have e1 : nI (d + 2) - 1 = nI (d + 1) := nI_pred (d + 1)
  refine loop_0 (fun n i row => wY_cat_30 post J (nI u) (nI (d + 2)) s p a n row (nI i)) (fun i row => ∀ v, bt row v = true ↔ v < i ∧ rl_cat (xw_R a (31 * d)) (xw_R a (31 * (d + 1))) u v) 31 0 (fun v => ⟨fun z => absurd z (bq_n0 v), fun z => absurd z.1 (Nat.not_lt_zero _)⟩) ?_ ?_
  · intro n row I
    refine br_t (nI_le (Nat.le_refl 31) (by omega)) ⟨xw_ii (a := 217) (by omega) (by decide), nm_e (nm_r (nI_1 u) ?_)⟩
    rw [show ((217 : Int32) + nI u).toNatClampNeg = 217 + u from xw_ic (a := 217) (by omega)]
    exact H row fun v => (I v).trans ⟨And.right, fun z => ⟨(rl_cat_lt z).2, z⟩⟩
  · intro n i row hi I ih
    refine br_f (nI_ge (b := 31) hi (by decide)) ?_
    rw [e1, e2]
    refine yw_cuts (by omega) (by omega) hu hi (fun hc => br_f xw_10 (nm_e (nm_r (nI_1 i) (ih _ fun v => ?_)))) (fun hc => br_t rfl (nm_r (nI_1 i) (ih _ fun v => ?_)))
    · rw [yw_C_cat (by omega) hu hi] at hc
      rw [bq_set _ (by omega), I v]
      constructor
      · rintro (z | rfl)
        · exact ⟨by omega, z.2⟩
        · exact ⟨by omega, hc⟩
      · rintro ⟨z1, z2⟩
        by_cases e : v = i
        · exact Or.inr e
        · exact Or.inl ⟨by omega, z2⟩
    · rw [yw_C_cat (by omega) hu hi] at hc
      rw [I v]
      refine ⟨fun z => ⟨by omega, z.2⟩, fun z => ⟨?_, z.2⟩⟩
      by_cases e : v = i
      · subst e; exact absurd z.2 hc
      · omega
theorem yw_cat {post : Int32 → SY → Prop} {d s : Nat} {p : Int32} {a : Nat → Int32} (hd : d + 2 ≤ 6) (hs : s < 18)
    (H : ∀ a' : Nat → Int32, (∀ i, i < 31 → ∀ v, bt (a' (31 * d + i)) v = true ↔ rl_cat (xw_R a (31 * d)) (xw_R a (31 * (d + 1))) i v) → (∀ i, i < 31 * d ∨ (31 * d + 31 ≤ i ∧ i < 217) → a' i = a i) → post (nI (d + 1)) (nI (d + 1), nI (s + 1), p, a')) :
    wpY_cat post (nI (d + 2), nI s, p, a) := by
  unfold wpY_cat
  dsimp only
  refine yw_tpOk hd hs ?_
  refine br_t (by decide) ?_
  refine yw_clear (r := 7) (by decide) fun a0 _ z2 => ?_
  refine loop_0 (fun n i a' => wY_cat_19 post (nI (d + 2)) (nI s) p n (nI i) a') (fun i a' => (∀ k, k < i → ∀ v, bt (a' (217 + k)) v = true ↔ rl_cat (xw_R a (31 * d)) (xw_R a (31 * (d + 1))) k v) ∧ (∀ k, k < 217 → a' k = a k)) 31 a0 ⟨(fun k hk => absurd hk (Nat.not_lt_zero _)), fun k hk => z2 k (Or.inl hk)⟩ ?_ ?_
  · intro n a' I
    refine br_t (nI_le (Nat.le_refl 31) (by omega)) (nm_r (nI_1 s) (nm_r (nI_pred (d + 1)) ?_))
    rw [nI_pred]
    refine yw_copy (r := 7) (r' := d) (by decide) (by omega) (by omega) fun b e1 e2 => ?_
    refine H b (fun i hi v => ?_) (fun i hi => ?_)
    · rw [e1 i hi]; exact I.1 i hi v
    · rw [e2 i (by omega)]; exact I.2 i (by omega)
  · intro n i a' hi I ih
    refine br_f (nI_ge (b := 31) hi (by decide)) (yw_ct30 hd hi fun row hr => ih _ ⟨fun k hk v => ?_, fun k hk => ?_⟩)
    · by_cases e : k = i
      · subst e
        rw [pk_us, hr v]
        exact rl_catc (xw_Rc fun j hj => I.2 _ (by omega)) (xw_Rc fun j hj => I.2 _ (by omega)) k v
      · rw [pk_un (by omega)]; exact I.1 k (by omega) v
    · rw [pk_un (by omega)]; exact I.2 k hk
theorem i_vc_cat {k : Nat} {u : SX} {v : SY} (I : i_Rel k u v) (hk : k + 5 ≤ 2560) : wpX_cat (fun r u' => wpY_cat (fun r' v' => r' = r ∧ i_Rel (k + 5) u' v') v) u := by
  have J := I
  obtain ⟨h, s, p, st, iu, m, a, h1, h2, h3, rfl, rfl, hs, hu⟩ := I
  by_cases b1 : s = 18
  · subst b1
    exact br_f (by decide) (yw_catFull ⟨rfl, J⟩)
  by_cases b2 : h < 2
  · exact br_t (nI_lt (b := 18) (by omega) (by decide)) (br_f (nI_ge (b := 2) b2 (by decide)) (yw_catFew b2 (by omega) ⟨rfl, J⟩))
  obtain ⟨d, rfl⟩ : ∃ d, h = d + 2 := ⟨h - 2, by omega⟩
  refine xw_cat h1 (by omega) fun st' m' e1 e2 => ?_
  refine yw_cat h1 (by omega) fun a' f1 f2 => ⟨rfl, ?_⟩
  refine iv_two (P := fun _ _ => True) (a := a) (st := st) (m := m) (by omega) (by omega) h3 (fun i hi => hs i (by omega)) hu (fun i hi => ?_) e2 f2
  exact bq_ext (e1 i hi) (fun v => (f1 i hi v).trans (rl_catc (xw_Rc fun j hj => hs _ (by omega)) (xw_Rc fun j hj => hs _ (by omega)) i v))
/-! turn -/
theorem xw_turn {post : Int32 → SX → Prop} {d s : Nat} {p : Int32} {st iu m : Nat → Int32} (hd : d + 1 ≤ 6) (hs : s < 18)
    (H : ∀ st' m' : Nat → Int32, (∀ i, i < 31 → ∀ v, bt (st' (31 * d + i)) v = true ↔ v < 31 ∧ xw_R st (31 * d) v i) → (∀ i, i < 31 * d ∨ 31 * d + 31 ≤ i → st' i = st i) → post (nI (d + 1)) (nI (d + 1), nI (s + 1), p, st', iu, m')) :
    wpX_turn post (nI (d + 1), nI s, p, st, iu, m) := by
  unfold wpX_turn
  dsimp only
  refine br_t (nI_lt (b := 18) hs (by decide)) (br_t (nI_le (a := 1) (by omega) (by omega)) ?_)
  refine xw_top ?_
  refine xw_makeTurn (by omega) fun m' hm => ?_
  refine xw_put (by omega) fun st' e1 e2 => ?_
  rw [nI_1 s]
  exact H st' m' (fun i hi v => by rw [e1 i hi]; exact hm i hi v) e2
theorem yw_tn27 {post : Int32 → SY → Prop} {J : Int32 → Int32 → Int32 → Int32 → (Nat → Int32) → Prop} {d u : Nat} {s p : Int32} {a : Nat → Int32} (hd : d + 1 ≤ 6) (hu : u < 31)
    (H : ∀ a' : Nat → Int32, (∀ v, bt (a' (217 + u)) v = true ↔ bt (a (217 + u)) v = true ∨ (v < 31 ∧ xw_R a (31 * d) v u)) → (∀ k, k ≠ 217 + u → a' k = a k) → J (nI (u + 1)) (nI (d + 1)) s p a') :
    ∃ n, wY_turn_27 post J (nI u) n 0 (nI (d + 1)) s p a := by
  refine loop_0 (fun n i a' => wY_turn_27 post J (nI u) n (nI i) (nI (d + 1)) s p a') (fun i a' => (∀ v, bt (a' (217 + u)) v = true ↔ bt (a (217 + u)) v = true ∨ (v < i ∧ xw_R a (31 * d) v u)) ∧ (∀ k, k ≠ 217 + u → a' k = a k)) 31 a ⟨fun v => ⟨Or.inl, fun z => z.elim id fun z => absurd z.1 (Nat.not_lt_zero _)⟩, fun _ _ => rfl⟩ ?_ ?_
  · intro n a' I
    exact br_t (nI_le (Nat.le_refl 31) (by omega)) (nm_r (nI_1 u) (H a' I.1 I.2))
  · intro n i a' hi I ih
    have e0 : xw_R a (31 * d) i u ↔ bt (a' (31 * d + i)) u = true := by unfold xw_R; rw [I.2 _ (by omega)]
    refine br_f (nI_ge (b := 31) hi (by decide)) ?_
    rw [nI_pred]
    refine yw_hb (by omega) hu (fun hb => ?_) (fun hb => nm_r (nI_1 i) (ih _ ⟨fun v => ?_, I.2⟩))
    · refine yw_put (r := 7) (by omega) (nm_r (nI_1 i) (ih _ ⟨fun v => ?_, fun k hk => ?_⟩))
      · rw [show 31 * 7 + u = 217 + u from rfl, pk_us, bq_set _ (by omega), I.1 v]
        constructor
        · rintro ((z | z) | rfl)
          · exact Or.inl z
          · exact Or.inr ⟨by omega, z.2⟩
          · exact Or.inr ⟨by omega, e0.mpr hb⟩
        · rintro (z | ⟨z1, z2⟩)
          · exact Or.inl (Or.inl z)
          · by_cases e : v = i
            · exact Or.inr e
            · exact Or.inl (Or.inr ⟨by omega, z2⟩)
      · rw [pk_un (by omega)]; exact I.2 k hk
    · rw [I.1 v]
      refine ⟨fun z => z.imp id fun z => ⟨by omega, z.2⟩, fun z => z.imp id fun z => ⟨?_, z.2⟩⟩
      by_cases e : v = i
      · subst e; exact absurd (e0.mp z.2) hb
      · omega
theorem yw_turn {post : Int32 → SY → Prop} {d s : Nat} {p : Int32} {a : Nat → Int32} (hd : d + 1 ≤ 6) (hs : s < 18)
    (H : ∀ a' : Nat → Int32, (∀ i, i < 31 → ∀ v, bt (a' (31 * d + i)) v = true ↔ v < 31 ∧ xw_R a (31 * d) v i) → (∀ i, i < 31 * d ∨ (31 * d + 31 ≤ i ∧ i < 217) → a' i = a i) → post (nI (d + 1)) (nI (d + 1), nI (s + 1), p, a')) :
    wpY_turn post (nI (d + 1), nI s, p, a) := by
  unfold wpY_turn
  dsimp only
  refine yw_toOk hd hs ?_
  refine br_t (by decide) ?_
  refine yw_clear (r := 7) (by decide) fun a0 z1 z2 => ?_
  refine loop_0 (fun n i a' => wY_turn_19 post n (nI i) (nI (d + 1)) (nI s) p a') (fun i a' => (∀ k, k < i → ∀ v, bt (a' (217 + k)) v = true ↔ v < 31 ∧ xw_R a (31 * d) v k) ∧ (∀ k, k < 217 → a' k = a k) ∧ (∀ k, i ≤ k → k < 31 → a' (217 + k) = 0)) 31 a0 ⟨(fun k hk => absurd hk (Nat.not_lt_zero _)), fun k hk => z2 k (Or.inl hk), fun k _ hk => z1 k hk⟩ ?_ ?_
  · intro n a' I
    refine br_t (nI_le (Nat.le_refl 31) (by omega)) ?_
    rw [nI_pred]
    refine yw_copy (r := 7) (r' := d) (by decide) (by omega) (by omega) fun b e1 e2 => ?_
    refine nm_r (nI_1 s) (H b (fun i hi v => ?_) (fun i hi => ?_))
    · rw [e1 i hi]; exact I.1 i hi v
    · rw [e2 i (by omega)]; exact I.2.1 i (by omega)
  · intro n i a' hi I ih
    refine br_f (nI_ge (b := 31) hi (by decide)) (yw_tn27 hd hi fun b f1 f2 => ih _ ⟨fun k hk v => ?_, fun k hk => ?_, fun k hk hk' => ?_⟩)
    · by_cases e : k = i
      · subst e
        rw [f1 v, I.2.2 k (Nat.le_refl _) hi]
        constructor
        · rintro (z | z)
          · exact absurd z (bq_n0 v)
          · exact ⟨z.1, (xw_Rc (fun j hj => I.2.1 _ (by omega)) v z.1 k hi).mp z.2⟩
        · intro z
          exact Or.inr ⟨z.1, (xw_Rc (fun j hj => I.2.1 _ (by omega)) v z.1 k hi).mpr z.2⟩
      · rw [f2 _ (by omega)]; exact I.1 k (by omega) v
    · rw [f2 _ (by omega)]; exact I.2.1 k hk
    · rw [f2 _ (by omega)]; exact I.2.2 k (by omega) hk'
theorem i_vc_turn {k : Nat} {u : SX} {v : SY} (I : i_Rel k u v) (hk : k + 5 ≤ 2560) : wpX_turn (fun r u' => wpY_turn (fun r' v' => r' = r ∧ i_Rel (k + 5) u' v') v) u := by
  have J := I
  obtain ⟨h, s, p, st, iu, m, a, h1, h2, h3, rfl, rfl, hs, hu⟩ := I
  by_cases b1 : s = 18
  · subst b1
    exact br_f (by decide) (yw_turnFull ⟨rfl, J⟩)
  by_cases b2 : h = 0
  · subst b2
    exact br_t (nI_lt (b := 18) (by omega) (by decide)) (br_f (by decide) (yw_turnFew (by omega) ⟨rfl, J⟩))
  obtain ⟨d, rfl⟩ : ∃ d, h = d + 1 := ⟨h - 1, by omega⟩
  refine xw_turn h1 (by omega) fun st' m' e1 e2 => ?_
  refine yw_turn h1 (by omega) fun a' f1 f2 => ⟨rfl, ?_⟩
  refine iv_two (P := fun _ _ => True) (a := a) (st := st) (m := m) (by omega) (by omega) h3 (fun i hi => hs i (by omega)) hu (fun i hi => ?_) e2 f2
  refine bq_ext (e1 i hi) (fun v => (f1 i hi v).trans ?_)
  exact ⟨fun z => ⟨z.1, (xw_Rc (fun j hj => hs _ (by omega)) v z.1 i hi).mp z.2⟩, fun z => ⟨z.1, (xw_Rc (fun j hj => hs _ (by omega)) v z.1 i hi).mpr z.2⟩⟩
end
section
/-! star -/
theorem rl_pwc {R R' : Nat → Nat → Prop} (hR : ∀ u, u < 31 → ∀ v, v < 31 → (R u v ↔ R' u v)) : ∀ n u v, rl_pw R n u v ↔ rl_pw R' n u v := by
  intro n
  induction n with
  | zero => exact fun _ _ => Iff.rfl
  | succ n ih => exact rl_catc (fun u hu v hv => or_congr Iff.rfl (hR u hu v hv)) (fun u _ v _ => ih u v)
theorem xw_star {post : Int32 → SX → Prop} {d s : Nat} {p : Int32} {st iu m : Nat → Int32} (hd : d + 1 ≤ 6) (hs : s < 18)
    (H : ∀ st' m' : Nat → Int32, (∀ i, i < 31 → ∀ v, bt (st' (31 * d + i)) v = true ↔ rl_pw (xw_R st (31 * d)) 8 i v) → (∀ i, i < 31 * d ∨ 31 * d + 31 ≤ i → st' i = st i) → post (nI (d + 1)) (nI (d + 1), nI (s + 1), p, st', iu, m')) :
    wpX_star post (nI (d + 1), nI s, p, st, iu, m) := by
  unfold wpX_star
  dsimp only
  refine br_t (nI_lt (b := 18) hs (by decide)) (br_t (nI_le (a := 1) (by omega) (by omega)) ?_)
  refine xw_top ?_
  refine ⟨vp_in_nI (by omega) (by decide), vp_in_nI (by omega) (by decide), nm_e ?_⟩
  rw [nI_clamp (by omega)]
  refine loop_0 (fun n i (z : (Nat → Int32) × (Nat → Int32)) => wX_star_40 post (nI (31 * d)) n (nI i) (nI (d + 1)) (nI s) p z.1 iu z.2)
    (fun i z => (∀ u, u < 31 → ∀ v, v < 31 → (xw_R z.1 (31 * d) u v ↔ rl_pw (xw_R st (31 * d)) (2 ^ i) u v)) ∧ (∀ k, k < 31 * d ∨ 31 * d + 31 ≤ k → z.1 k = st k) ∧ (0 < i → ∀ u, u < 31 → ∀ v, bt (z.2 u) v = true ↔ rl_pw (xw_R st (31 * d)) (2 ^ i) u v)) 3
    (upd st (31 * d) (st (31 * d) ||| 1), m) ⟨fun u hu v hv => ?_, fun k hk => pk_un (by omega), fun z => absurd z (by decide)⟩ ?_ ?_
  · rw [show 2 ^ 0 = 1 from rfl, rl_pw_1 hu hv]
    show bt (upd st (31 * d) (st (31 * d) ||| 1) (31 * d + u)) v = true ↔ (u = 0 ∧ v = 0) ∨ bt (st (31 * d + u)) v = true
    by_cases e : u = 0
    · subst e
      rw [Nat.add_zero, pk_us, bq_or, bq_1 v (by omega), decide_eq_true_iff]
      exact ⟨fun z => z.elim Or.inr (fun z => Or.inl ⟨rfl, z⟩), fun z => z.elim (fun z => Or.inr z.2) Or.inl⟩
    · rw [pk_un (by omega)]
      exact ⟨Or.inr, fun z => z.elim (fun z => absurd z.1 e) id⟩
  · rintro n ⟨st', m'⟩ ⟨I1, I2, I3⟩
    refine br_t (nI_le (Nat.le_refl 3) (by omega)) ?_
    refine xw_put (by omega) fun st2 e1 e2 => ?_
    rw [nI_1 s]
    refine H st2 m' (fun i hi v => ?_) (fun i hi => (e2 i hi).trans (I2 i hi))
    rw [e1 i hi]
    exact I3 (by decide) i hi v
  · rintro n i ⟨st', m'⟩ hi ⟨I1, I2, I3⟩ ih
    refine br_f (nI_ge (b := 3) hi (by decide)) ?_
    refine xw_makeCat (by omega) (by omega) fun m2 hm => ?_
    refine xw_copy (by omega) fun st2 e1 e2 => ?_
    have key : ∀ u, u < 31 → ∀ v, bt (m2 u) v = true ↔ rl_pw (xw_R st (31 * d)) (2 ^ (i + 1)) u v := by
      intro u hu v
      rw [hm u hu v, rl_catc I1 I1 u v, rl_pw_add, show 2 ^ i + 2 ^ i = 2 ^ (i + 1) by rw [Nat.pow_succ]; omega]
    refine nm_r (nI_1 i) (ih (st2, m2) ⟨fun u hu v hv => ?_, fun k hk => (e2 k hk).trans (I2 k hk), fun _ => key⟩)
    show bt (st2 (31 * d + u)) v = true ↔ _
    rw [e1 u hu]
    exact key u hu v
theorem yw_star {post : Int32 → SY → Prop} {d s : Nat} {p : Int32} {a : Nat → Int32} (hd : d + 1 ≤ 6) (hs : s < 18)
    (H : ∀ a' : Nat → Int32, (∀ i, i < 31 → ∀ v, bt (a' (31 * d + i)) v = true ↔ rl_pw (xw_R a (31 * d)) 8 i v) → (∀ i, i < 31 * d ∨ (31 * d + 31 ≤ i ∧ i < 217) → a' i = a i) → post (nI (d + 1)) (nI (d + 1), nI (s + 1), p, a')) :
    wpY_star post (nI (d + 1), nI s, p, a) := by
  unfold wpY_star
  dsimp only
  refine yw_toOk hd hs ?_
  refine br_t (by decide) ?_
  refine yw_clear (r := 7) (by decide) fun a0 z1 z2 => ?_
  refine yw_put (r := 7) (u := 0) (v := 0) (by decide) ?_
  have p0 : rl_pw (xw_R a (31 * d)) 8 0 0 := rl_pw_8 (n := 0) ⟨rfl, rfl⟩
  refine loop_0 (fun n i a' => wY_star_27 post n (nI i) (nI (d + 1)) (nI s) p a')
    (fun i a' => (∀ u, u < 31 → ∀ v, bt (a' (217 + u)) v = true ↔ ((31 * u + v < i ∧ v < 31) ∨ (u = 0 ∧ v = 0)) ∧ rl_pw (xw_R a (31 * d)) 8 u v) ∧ (∀ k, k < 217 → a' k = a k)) 961 (upd a0 (31 * 7 + 0) (a0 (31 * 7 + 0) ||| ((1 : Int32) <<< (nI 0 &&& 31)))) ⟨fun u hu v => ?_, fun k hk => ?_⟩ ?_ ?_
  · by_cases e : u = 0
    · subst e
      rw [show 31 * 7 + 0 = 217 + 0 from rfl, pk_us, show a0 (217 + 0) = 0 from z1 0 hu, bq_set _ (by decide)]
      constructor
      · rintro (z | rfl)
        · exact absurd z (bq_n0 v)
        · exact ⟨Or.inr ⟨rfl, rfl⟩, p0⟩
      · rintro ⟨z | z, _⟩
        · exact absurd z.1 (Nat.not_lt_zero _)
        · exact Or.inr z.2
    · rw [pk_un (by omega), show a0 (217 + u) = 0 from z1 u hu]
      exact ⟨fun z => absurd z (bq_n0 v), fun z => z.1.elim (fun z => absurd z.1 (Nat.not_lt_zero _)) (fun z => absurd z.1 e)⟩
  · rw [pk_un (by omega)]; exact z2 k (Or.inl hk)
  · intro n a' I
    refine br_t (nI_le (Nat.le_refl 961) (by omega)) ?_
    rw [nI_pred]
    refine yw_copy (r := 7) (r' := d) (by decide) (by omega) (by omega) fun b e1 e2 => ?_
    refine nm_r (nI_1 s) (H b (fun i hi v => ?_) (fun i hi => ?_))
    · rw [e1 i hi]
      refine (I.1 i hi v).trans ⟨And.right, fun z => ⟨Or.inl ?_, z⟩⟩
      have := (rl_pw_lt z).2
      omega
    · rw [e2 i (by omega)]; exact I.2 i (by omega)
  · intro n i a' hi I ih
    have q1 : nI i / 31 = nI (i / 31) := pk_div (d := 31) (by omega) (by decide) (by decide)
    have q2 : nI i - nI i / 31 * 31 = nI (i % 31) := pk_rem (d := 31) (by omega) (by decide) (by decide)
    have hu : i / 31 < 31 := by omega
    have hv : i % 31 < 31 := by omega
    have hi2 : i = 31 * (i / 31) + i % 31 := by omega
    refine br_f (nI_ge (b := 961) hi (by decide)) ⟨by decide, by decide, ?_⟩
    rw [q2, q1, nI_pred]
    generalize i / 31 = u at *
    generalize i % 31 = v at *
    have key : yw_C a' d 7 u v ↔ rl_pw (xw_R a (31 * d)) 8 u v ∧ ¬ (u = 0 ∧ v = 0) := by
      rw [yw_C_ct1 hu hv]
      have hR := xw_Rc (a := a) (a' := a') (c := 31 * d) (c' := 31 * d) fun j hj => I.2 _ (by omega)
      constructor
      · rintro ⟨e, b, c, f, j1, j2, j3, j4, j5⟩
        have l1 := wn_Jle j1
        have l2 := wn_Jle j2
        refine ⟨rl_s1 ⟨e, b, c, f, j1, j2, j3, (hR e j1.1 c j2.1).mp j4, ((I.1 b (wn_Jlt j1).2 f).mp j5).2⟩, ?_⟩
        rintro ⟨rfl, rfl⟩
        omega
      · rintro ⟨g1, g2⟩
        obtain ⟨e, b, c, f, j1, j2, j3, j4, j5⟩ := rl_s2 g1 g2
        have l1 := wn_Jle j1
        have l2 := wn_Jle j2
        have l3 := wn_Jlt j2
        refine ⟨e, b, c, f, j1, j2, j3, (hR e j1.1 c j2.1).mpr j4, (I.1 b (wn_Jlt j1).2 f).mpr ⟨Or.inl ⟨?_, l3.2⟩, j5⟩⟩
        omega
    refine yw_cuts (y := 7) (by omega) (by decide) hu hv (fun hc => br_f xw_10 ⟨by decide, by decide, ?_⟩) (fun hc => br_t rfl (nm_r (nI_1 i) (ih _ ⟨fun u' hu' v' => ?_, I.2⟩)))
    · rw [key] at hc
      refine yw_put (r := 7) (by omega) (nm_r (nI_1 i) (ih _ ⟨fun u' hu' v' => ?_, fun k hk => ?_⟩))
      · by_cases e : u' = u
        · subst e
          rw [show 31 * 7 + u' = 217 + u' from rfl, pk_us, bq_set _ (by omega), I.1 u' hu' v']
          constructor
          · rintro (⟨z1, z2⟩ | rfl)
            · exact ⟨by omega, z2⟩
            · exact ⟨by omega, hc.1⟩
          · rintro ⟨z1, z2⟩
            by_cases e : v' = v
            · exact Or.inr e
            · exact Or.inl ⟨by omega, z2⟩
        · rw [pk_un (by omega), I.1 u' hu' v']
          exact ⟨fun z => ⟨by omega, z.2⟩, fun z => ⟨by omega, z.2⟩⟩
      · rw [pk_un (by omega)]; exact I.2 k hk
    · rw [key] at hc
      rw [I.1 u' hu' v']
      refine ⟨fun z => ⟨by omega, z.2⟩, fun z => ⟨?_, z.2⟩⟩
      by_cases e : u' = u ∧ v' = v
      · obtain ⟨rfl, rfl⟩ := e
        right
        exact Classical.byContradiction fun g => hc ⟨z.2, g⟩
      · omega
theorem i_vc_star {k : Nat} {u : SX} {v : SY} (I : i_Rel k u v) (hk : k + 5 ≤ 2560) : wpX_star (fun r u' => wpY_star (fun r' v' => r' = r ∧ i_Rel (k + 5) u' v') v) u := by
  have J := I
  obtain ⟨h, s, p, st, iu, m, a, h1, h2, h3, rfl, rfl, hs, hu⟩ := I
  by_cases b1 : s = 18
  · subst b1
    exact br_f (by decide) (yw_starFull ⟨rfl, J⟩)
  by_cases b2 : h = 0
  · subst b2
    exact br_t (nI_lt (b := 18) (by omega) (by decide)) (br_f (by decide) (yw_starFew (by omega) ⟨rfl, J⟩))
  obtain ⟨d, rfl⟩ : ∃ d, h = d + 1 := ⟨h - 1, by omega⟩
  refine xw_star h1 (by omega) fun st' m' e1 e2 => ?_
  refine yw_star h1 (by omega) fun a' f1 f2 => ⟨rfl, ?_⟩
  refine iv_two (P := fun _ _ => True) (a := a) (st := st) (m := m) (by omega) (by omega) h3 (fun i hi => hs i (by omega)) hu (fun i hi => ?_) e2 f2
  exact bq_ext (e1 i hi) (fun v => (f1 i hi v).trans (rl_pwc (xw_Rc fun j hj => hs _ (by omega)) 8 i v))
end
section
/-! the questions -/
theorem qv_t : ∀ l, l < 5 → ∀ b, b < 2 ^ l → (((1 : Int32) <<< (nI l &&& 31)) - 1) + nI b = nI (2 ^ l - 1 + b) ∧ 2 ^ l - 1 + b < 31 := by decide +kernel
theorem qv_t2 : ∀ l, l < 5 → (1 : Int32) <<< (nI l &&& 31) = nI (2 ^ l) := by decide +kernel
theorem qv_valid (p0 p1 : Int32) : ∃ r : Int32, (r = 0 ∨ (r = 1 ∧ ∃ w, w < 31 ∧ (((1 : Int32) <<< (p0 &&& 31)) - 1) + p1 = nI w)) ∧ (∀ post : Int32 → Prop, post r → wpX_isValid post p0 p1) ∧ (∀ (post : Int32 → Prop) (d s g : Int32) (a : Nat → Int32), post r → wpY_isWord post (d, s, g, a) p0 p1) := by
  by_cases a1 : p0 < 0
  · exact ⟨0, Or.inl rfl, fun _ h => br_t a1 h, fun _ _ _ _ _ h => br_t a1 h⟩
  by_cases a2 : 4 < p0
  · exact ⟨0, Or.inl rfl, fun _ h => br_f a1 (br_t a2 h), fun _ _ _ _ _ h => br_f a1 (br_t a2 h)⟩
  by_cases a3 : p1 < 0
  · exact ⟨0, Or.inl rfl, fun _ h => br_f a1 (br_f a2 (br_t a3 h)), fun _ _ _ _ _ h => br_f a1 (br_f a2 (br_t a3 h))⟩
  by_cases a4 : ((1 : Int32) <<< (p0 &&& 31)) ≤ p1
  · exact ⟨0, Or.inl rfl, fun _ h => br_f a1 (br_f a2 (br_f a3 (br_t a4 h))), fun _ _ _ _ _ h => br_f a1 (br_f a2 (br_f a3 (br_t a4 h)))⟩
  refine ⟨1, Or.inr ⟨rfl, ?_⟩, fun _ h => br_f a1 (br_f a2 (br_f a3 (br_f a4 h))), fun _ _ _ _ _ h => br_f a1 (br_f a2 (br_f a3 (br_f a4 h)))⟩
  obtain ⟨l, hl, rfl⟩ := nI_of2 (M := 4) (n := 4) (by decide) a1 (Int32.not_lt.mp a2)
  obtain ⟨b, hb, rfl⟩ := nI_of a3
  have hl2 : 2 ^ l < 2 ^ 31 := Nat.pow_lt_pow_right (by decide) (by omega)
  rw [qv_t2 l (by omega), nI_leI hl2 hb] at a4
  have t := qv_t l (by omega) b (by omega)
  exact ⟨_, t.2, t.1⟩
theorem xw_wn {post : Int32 → Prop} {p0 p1 : Int32} {w : Nat} (e : (((1 : Int32) <<< (p0 &&& 31)) - 1) + p1 = nI w) (h : post (nI w)) : wpX_wordNumber post p0 p1 := by
  unfold wpX_wordNumber
  rw [e]
  exact h
def qc_n (P : Nat → Bool) : Nat → Nat
  | 0 => 0
  | n + 1 => if P n = true then qc_n P n + 1 else qc_n P n
theorem qc_nt {P : Nat → Bool} {n : Nat} (h : P n = true) : qc_n P (n + 1) = qc_n P n + 1 := if_pos h
theorem qc_nf {P : Nat → Bool} {n : Nat} (h : ¬ P n = true) : qc_n P (n + 1) = qc_n P n := if_neg h
theorem qc_nle (P : Nat → Bool) : ∀ n, qc_n P n ≤ n := by
  intro n
  induction n with
  | zero => exact Nat.le_refl _
  | succ n ih =>
    by_cases h : P n = true
    · rw [qc_nt h]; omega
    · rw [qc_nf h]; omega
def qc_s (f : Nat → Nat) : Nat → Nat
  | 0 => 0
  | n + 1 => qc_s f n + f n
def qc_a (P : Nat → Bool) : Nat → Bool
  | 0 => false
  | n + 1 => qc_a P n || P n
theorem qc_au {P : Nat → Bool} {n : Nat} (h : qc_a P n = true) : ∀ k, qc_a P (n + k) = true := by
  intro k
  induction k with
  | zero => exact h
  | succ k ih => show (qc_a P (n + k) || P (n + k)) = true; rw [ih, Bool.true_or]
theorem qc_ale {P : Nat → Bool} {n m : Nat} (h : qc_a P n = true) (hm : n ≤ m) : qc_a P m = true := by
  have := qc_au h (m - n)
  rwa [show n + (m - n) = m by omega] at this
theorem xw_size {post : Int32 → Prop} {x : Int32} (h : post (nI (qc_n (bt x) 31))) : wpX_sizeOf post x := by
  refine loop_0 (fun n i s => wX_sizeOf_4 post x n s (nI i)) (fun i s => s = nI (qc_n (bt x) i)) 31 0 rfl ?_ ?_
  · rintro n s rfl
    exact br_t (nI_le (Nat.le_refl 31) (by omega)) h
  · rintro n i s hi rfl ih
    refine br_f (nI_ge (b := 31) hi (by decide)) (xw_hb hi (fun hb => nm_r (nI_1 _) (nm_r (nI_1 i) (ih _ ?_))) (fun hb => nm_r (nI_1 i) (ih _ ?_)))
    · rw [qc_nt hb]
    · rw [qc_nf hb]
section QS
variable {d s g : Int32} {h t p : Int32} {a iu st m : Nat → Int32}
theorem yw_imagesOf {post : Int32 → Prop} {u : Nat} (hu : u < 31) (H : post (nI (qc_n (bt (a (186 + u))) 31))) : wpY_imagesOf post (d, s, g, a) (nI u) := by
  refine loop_0 (fun n i c => wY_imagesOf_4 post (nI u) d s g a n c (nI i)) (fun i c => c = nI (qc_n (bt (a (186 + u))) i)) 31 0 rfl ?_ ?_
  · rintro n c rfl
    exact br_t (nI_le (Nat.le_refl 31) (by omega)) H
  · rintro n i c hi rfl ih
    refine br_f (nI_ge (b := 31) hi (by decide)) (yw_hb (r := 6) (by omega) hi (fun hb => nm_r (nI_1 _) (nm_r (nI_1 i) (ih _ ?_))) (fun hb => nm_r (nI_1 i) (ih _ ?_)))
    · rw [qc_nt hb]
    · rw [qc_nf hb]
theorem xw_pairs {post : Int32 → Prop} (H : post (nI (qc_s (fun u => qc_n (bt (iu u)) 31) 31))) : wpX_pairs post (h, t, p, st, iu, m) := by
  refine loop_0 (fun n i c => wX_pairs_4 post h t p st iu m n c (nI i)) (fun i c => c = nI (qc_s (fun u => qc_n (bt (iu u)) 31) i)) 31 0 rfl ?_ ?_
  · rintro n c rfl
    exact br_t (nI_le (Nat.le_refl 31) (by omega)) H
  · rintro n i c hi rfl ih
    refine br_f (nI_ge (b := 31) hi (by decide)) ⟨vp_in_nI hi (by decide), ?_⟩
    rw [nI_clamp (by omega)]
    exact xw_size (nm_r (nI_add _ _) (nm_r (nI_1 i) (ih _ rfl)))
theorem yw_pairs {post : Int32 → Prop} (hu : ∀ i, i < 31 → a (186 + i) = iu i) (H : post (nI (qc_s (fun u => qc_n (bt (iu u)) 31) 31))) : wpY_pairs post (d, s, g, a) := by
  refine loop_0 (fun n i c => wY_pairs_4 post d s g a n c (nI i)) (fun i c => c = nI (qc_s (fun u => qc_n (bt (iu u)) 31) i)) 31 0 rfl ?_ ?_
  · rintro n c rfl
    exact br_t (nI_le (Nat.le_refl 31) (by omega)) H
  · rintro n i c hi rfl ih
    refine br_f (nI_ge (b := 31) hi (by decide)) (yw_imagesOf hi ?_)
    rw [hu i hi]
    exact nm_r (nI_add _ _) (nm_r (nI_1 i) (ih _ rfl))
theorem xw_left {post : Int32 → Prop} {k : Nat} (hk : k < 31) (H : post (nI (qc_n (fun u => decide (k ≤ qc_n (bt (iu u)) 31)) 31))) : wpX_leftWordsWithAtLeast post (h, t, p, st, iu, m) (nI k) := by
  refine loop_0 (fun n i c => wX_leftWordsWithAtLeast_4 post (nI k) h t p st iu m n c (nI i)) (fun i c => c = nI (qc_n (fun u => decide (k ≤ qc_n (bt (iu u)) 31)) i)) 31 0 rfl ?_ ?_
  · rintro n c rfl
    exact br_t (nI_le (Nat.le_refl 31) (by omega)) H
  · rintro n i c hi rfl ih
    refine br_f (nI_ge (b := 31) hi (by decide)) ⟨vp_in_nI hi (by decide), ?_⟩
    rw [nI_clamp (by omega)]
    have hl := qc_nle (bt (iu i)) 31
    refine xw_size ?_
    refine pk_lt (qc_n (bt (iu i)) 31) k (fun hb => nm_r (nI_1 i) (ih _ ?_)) (fun hb => nm_r (nI_1 _) (nm_r (nI_1 i) (ih _ ?_)))
    · rw [qc_nf (P := fun u => decide (k ≤ qc_n (bt (iu u)) 31)) (by simp only [decide_eq_true_eq]; omega)]
    · rw [qc_nt (P := fun u => decide (k ≤ qc_n (bt (iu u)) 31)) (by simp only [decide_eq_true_eq]; omega)]
theorem yw_domain {post : Int32 → Prop} (hu : ∀ i, i < 31 → a (186 + i) = iu i) (H : post (nI (qc_n (fun u => decide (1 ≤ qc_n (bt (iu u)) 31)) 31))) : wpY_domain post (d, s, g, a) := by
  refine loop_0 (fun n i c => wY_domain_4 post d s g a n c (nI i)) (fun i c => c = nI (qc_n (fun u => decide (1 ≤ qc_n (bt (iu u)) 31)) i)) 31 0 rfl ?_ ?_
  · rintro n c rfl
    exact br_t (nI_le (Nat.le_refl 31) (by omega)) H
  · rintro n i c hi rfl ih
    refine br_f (nI_ge (b := 31) hi (by decide)) (yw_imagesOf hi ?_)
    rw [hu i hi]
    have hl := qc_nle (bt (iu i)) 31
    refine pk_le (qc_n (bt (iu i)) 31) 0 (fun hb => nm_r (nI_1 i) (ih _ ?_)) (fun hb => nm_r (nI_1 _) (nm_r (nI_1 i) (ih _ ?_)))
    · rw [qc_nf (P := fun u => decide (1 ≤ qc_n (bt (iu u)) 31)) (by simp only [decide_eq_true_eq]; omega)]
    · rw [qc_nt (P := fun u => decide (1 ≤ qc_n (bt (iu u)) 31)) (by simp only [decide_eq_true_eq]; omega)]
theorem yw_manyValued {post : Int32 → Prop} (hu : ∀ i, i < 31 → a (186 + i) = iu i) (H : post (nI (qc_n (fun u => decide (2 ≤ qc_n (bt (iu u)) 31)) 31))) : wpY_manyValued post (d, s, g, a) := by
  refine loop_0 (fun n i c => wY_manyValued_4 post d s g a n c (nI i)) (fun i c => c = nI (qc_n (fun u => decide (2 ≤ qc_n (bt (iu u)) 31)) i)) 31 0 rfl ?_ ?_
  · rintro n c rfl
    exact br_t (nI_le (Nat.le_refl 31) (by omega)) H
  · rintro n i c hi rfl ih
    refine br_f (nI_ge (b := 31) hi (by decide)) (yw_imagesOf hi ?_)
    rw [hu i hi]
    have hl := qc_nle (bt (iu i)) 31
    refine pk_le (qc_n (bt (iu i)) 31) 1 (fun hb => nm_r (nI_1 i) (ih _ ?_)) (fun hb => nm_r (nI_1 _) (nm_r (nI_1 i) (ih _ ?_)))
    · rw [qc_nf (P := fun u => decide (2 ≤ qc_n (bt (iu u)) 31)) (by simp only [decide_eq_true_eq]; omega)]
    · rw [qc_nt (P := fun u => decide (2 ≤ qc_n (bt (iu u)) 31)) (by simp only [decide_eq_true_eq]; omega)]
theorem xw_fixed {post : Int32 → Prop} (H : post (nI (qc_n (fun u => bt (iu u) u) 31))) : wpX_fixed post (h, t, p, st, iu, m) := by
  refine loop_0 (fun n i c => wX_fixed_4 post h t p st iu m n c (nI i)) (fun i c => c = nI (qc_n (fun u => bt (iu u) u) i)) 31 0 rfl ?_ ?_
  · rintro n c rfl
    exact br_t (nI_le (Nat.le_refl 31) (by omega)) H
  · rintro n i c hi rfl ih
    refine br_f (nI_ge (b := 31) hi (by decide)) ⟨vp_in_nI hi (by decide), ?_⟩
    rw [nI_clamp (by omega)]
    refine xw_hb hi (fun hb => nm_r (nI_1 _) (nm_r (nI_1 i) (ih _ ?_))) (fun hb => nm_r (nI_1 i) (ih _ ?_))
    · rw [qc_nt (P := fun u => bt (iu u) u) hb]
    · rw [qc_nf (P := fun u => bt (iu u) u) hb]
theorem yw_fixed {post : Int32 → Prop} (hu : ∀ i, i < 31 → a (186 + i) = iu i) (H : post (nI (qc_n (fun u => bt (iu u) u) 31))) : wpY_fixed post (d, s, g, a) := by
  refine loop_0 (fun n i c => wY_fixed_4 post d s g a n c (nI i)) (fun i c => c = nI (qc_n (fun u => bt (iu u) u) i)) 31 0 rfl ?_ ?_
  · rintro n c rfl
    exact br_t (nI_le (Nat.le_refl 31) (by omega)) H
  · rintro n i c hi rfl ih
    refine br_f (nI_ge (b := 31) hi (by decide)) (yw_hb (r := 6) (by omega) hi (fun hb => nm_r (nI_1 _) (nm_r (nI_1 i) (ih _ ?_))) (fun hb => nm_r (nI_1 i) (ih _ ?_)))
    · rw [show 31 * 6 + i = 186 + i from rfl, hu i hi] at hb
      rw [qc_nt (P := fun u => bt (iu u) u) hb]
    · rw [show 31 * 6 + i = 186 + i from rfl, hu i hi] at hb
      rw [qc_nf (P := fun u => bt (iu u) u) hb]
theorem xw_src {post : Int32 → Prop} {w : Nat} (hw : w < 31) (H : post (nI (qc_n (fun u => bt (iu u) w) 31))) : ∃ n, wX_sources_22 post (nI w) h t p st iu m n 0 0 := by
  refine loop_0 (fun n i c => wX_sources_22 post (nI w) h t p st iu m n c (nI i)) (fun i c => c = nI (qc_n (fun u => bt (iu u) w) i)) 31 0 rfl ?_ ?_
  · rintro n c rfl
    exact br_t (nI_le (Nat.le_refl 31) (by omega)) H
  · rintro n i c hi rfl ih
    refine br_f (nI_ge (b := 31) hi (by decide)) ⟨vp_in_nI hi (by decide), ?_⟩
    rw [nI_clamp (by omega)]
    refine xw_hb hw (fun hb => nm_r (nI_1 _) (nm_r (nI_1 i) (ih _ ?_))) (fun hb => nm_r (nI_1 i) (ih _ ?_))
    · rw [qc_nt (P := fun u => bt (iu u) w) hb]
    · rw [qc_nf (P := fun u => bt (iu u) w) hb]
theorem yw_src {post : Int32 → Prop} {p0 p1 : Int32} {w : Nat} (hu : ∀ i, i < 31 → a (186 + i) = iu i) (e : (((1 : Int32) <<< (p0 &&& 31)) - 1) + p1 = nI w) (hw : w < 31) (H : post (nI (qc_n (fun u => bt (iu u) w) 31))) : ∃ n, wY_sources_16 post p0 p1 d s g a n 0 0 := by
  refine loop_0 (fun n i c => wY_sources_16 post p0 p1 d s g a n c (nI i)) (fun i c => c = nI (qc_n (fun u => bt (iu u) w) i)) 31 0 rfl ?_ ?_
  · rintro n c rfl
    exact br_t (nI_le (Nat.le_refl 31) (by omega)) H
  · rintro n i c hi rfl ih
    refine br_f (nI_ge (b := 31) hi (by decide)) ?_
    rw [e]
    refine yw_hb (r := 6) (by omega) hw (fun hb => nm_r (nI_1 _) (nm_r (nI_1 i) (ih _ ?_))) (fun hb => nm_r (nI_1 i) (ih _ ?_))
    · rw [show 31 * 6 + i = 186 + i from rfl, hu i hi] at hb
      rw [qc_nt (P := fun u => bt (iu u) w) hb]
    · rw [show 31 * 6 + i = 186 + i from rfl, hu i hi] at hb
      rw [qc_nf (P := fun u => bt (iu u) w) hb]
def qc_t (iu : Nat → Int32) (u w : Nat) : Bool := qc_a (fun v => bt (iu u) v && bt (iu v) w) 31
theorem xw_ts15 {post : Int32 → Prop} {J : Int32 → Int32 → Prop} {c u : Nat} (hu : u < 31) (H : J (nI (c + qc_n (qc_t iu u) 31)) (nI (u + 1))) : ∃ n, wX_twoSteps_15 post J (nI c) (nI u) h t p st iu m n 0 0 := by
  refine loop_0 (fun n i x => wX_twoSteps_15 post J (nI c) (nI u) h t p st iu m n x (nI i)) (fun i x => ∀ w, bt x w = qc_a (fun v => bt (iu u) v && bt (iu v) w) i) 31 0 (fun w => b_0 w) ?_ ?_
  · intro n x I
    refine br_t (nI_le (Nat.le_refl 31) (by omega)) (xw_size (nm_r (nI_add _ _) (nm_r (nI_1 u) ?_)))
    rw [show bt x = qc_t iu u from funext I]
    exact H
  · intro n i x hi I ih
    refine br_f (nI_ge (b := 31) hi (by decide)) ⟨vp_in_nI hu (by decide), ?_⟩
    rw [nI_clamp (n := u) (by omega)]
    refine xw_hb hi (fun hb => ⟨vp_in_nI hi (by decide), nm_e (nm_r (nI_1 i) (ih _ fun w => ?_))⟩) (fun hb => nm_r (nI_1 i) (ih _ fun w => ?_))
    · rw [nI_clamp (n := i) (by omega), b_or, I w]
      show _ = (_ || (bt (iu u) i && bt (iu i) w))
      rw [hb, Bool.true_and]
    · rw [I w]
      show _ = (_ || (bt (iu u) i && bt (iu i) w))
      rw [Bool.not_eq_true _ |>.mp hb, Bool.false_and, Bool.or_false]
theorem xw_twoSteps {post : Int32 → Prop} (H : post (nI (qc_s (fun u => qc_n (qc_t iu u) 31) 31))) : wpX_twoSteps post (h, t, p, st, iu, m) := by
  refine loop_0 (fun n i c => wX_twoSteps_4 post h t p st iu m n c (nI i)) (fun i c => c = nI (qc_s (fun u => qc_n (qc_t iu u) 31) i)) 31 0 rfl ?_ ?_
  · rintro n c rfl
    exact br_t (nI_le (Nat.le_refl 31) (by omega)) H
  · rintro n i c hi rfl ih
    exact br_f (nI_ge (b := 31) hi (by decide)) (xw_ts15 hi (ih _ rfl))
theorem yw_leads {post : Int32 → Prop} {u w : Nat} (hi : ∀ i, i < 31 → a (186 + i) = iu i) (hu : u < 31) (hw : w < 31) (h1 : qc_t iu u w = true → post 1) (h0 : ¬ qc_t iu u w = true → post 0) : wpY_leads post (d, s, g, a) (nI u) (nI w) := by
  refine loop_0 (fun n i (_ : Unit) => wY_leads_2 post (nI u) (nI w) d s g a n (nI i)) (fun i _ => qc_a (fun v => bt (iu u) v && bt (iu v) w) i = false) 31 () rfl ?_ ?_
  · intro n _ I
    exact br_t (nI_le (Nat.le_refl 31) (by omega)) (h0 (by unfold qc_t; rw [I]; exact Bool.noConfusion))
  · intro n i _ hi' I ih
    have e : ∀ b : Bool, (bt (iu u) i && bt (iu i) w) = b → qc_a (fun v => bt (iu u) v && bt (iu v) w) (i + 1) = b := fun b hb => by
      show (_ || (bt (iu u) i && bt (iu i) w)) = b
      rw [I, Bool.false_or]; exact hb
    refine br_f (nI_ge (b := 31) hi' (by decide)) (yw_hb (r := 6) (by omega) hi' (fun hb => ?_) (fun hb => nm_r (nI_1 i) (ih () (e _ ?_))))
    · rw [show 31 * 6 + u = 186 + u from rfl, hi u hu] at hb
      refine yw_hb (r := 6) (by omega) hw (fun hc => h1 (qc_ale (e true ?_) (by omega))) (fun hc => nm_r (nI_1 i) (ih () (e _ ?_)))
      · rw [show 31 * 6 + i = 186 + i from rfl, hi i hi'] at hc
        rw [hb, hc]; rfl
      · rw [show 31 * 6 + i = 186 + i from rfl, hi i hi'] at hc
        rw [Bool.not_eq_true _ |>.mp hc, Bool.and_false]
    · rw [show 31 * 6 + u = 186 + u from rfl, hi u hu] at hb
      rw [Bool.not_eq_true _ |>.mp hb, Bool.false_and]
theorem yw_twoSteps {post : Int32 → Prop} (hu : ∀ i, i < 31 → a (186 + i) = iu i) (H : post (nI (qc_s (fun u => qc_n (qc_t iu u) 31) 31))) : wpY_twoSteps post (d, s, g, a) := by
  refine loop_0 (fun n i c => wY_twoSteps_4 post d s g a n c (nI i)) (fun i c => c = nI (qc_s (fun u => qc_n (qc_t iu u) 31) i)) 31 0 rfl ?_ ?_
  · rintro n c rfl
    exact br_t (nI_le (Nat.le_refl 31) (by omega)) H
  · rintro n i c hi rfl ih
    refine br_f (nI_ge (b := 31) hi (by decide)) ?_
    refine loop_0 (fun n' j c => wY_twoSteps_12 post (wY_twoSteps_4 post d s g a n) (nI i) d s g a n' c (nI j)) (fun j c => c = nI (qc_s (fun u => qc_n (qc_t iu u) 31) i + qc_n (qc_t iu i) j)) 31 _ rfl ?_ ?_
    · rintro n' c rfl
      exact br_t (nI_le (Nat.le_refl 31) (by omega)) (nm_r (nI_1 i) (ih _ rfl))
    · rintro n' j c hj rfl ih'
      refine br_f (nI_ge (b := 31) hj (by decide)) (yw_leads hu hi hj (fun hb => br_f xw_10 (nm_r (nI_1 _) (nm_r (nI_1 j) (ih' _ ?_)))) (fun hb => br_t rfl (nm_r (nI_1 j) (ih' _ ?_))))
      · rw [qc_nt hb]; rfl
      · rw [qc_nf hb]
theorem qi_t : ∀ v, v < 31 → ((16 * nI (wn_ln v)) + nI v) - (((1 : Int32) <<< (nI (wn_ln v) &&& 31)) - 1) = (16 * nI (wn_ln v)) + (nI v - ((((1 : Int32) <<< (nI (wn_ln v) &&& 31)) - 1) + 0)) := by decide +kernel
theorem qi_scan {p0 p1 k : Int32} {w : Nat} (hu : ∀ i, i < 31 → a (186 + i) = iu i) (e : (((1 : Int32) <<< (p0 &&& 31)) - 1) + p1 = nI w) (hw : w < 31) : ∀ (n i : Nat) (b : Int32), i + n = 31 → ∃ r : Int32, (∀ post : Int32 → Prop, post r → wX_image_23 post k (nI w) h t p st iu m (n + 1) b (nI i)) ∧ (∀ post : Int32 → Prop, post r → wY_image_17 post p0 p1 k d s g a (n + 1) b (nI i)) := by
  intro n
  induction n with
  | zero =>
    intro i b hi
    obtain rfl : i = 31 := hi
    exact ⟨-4, fun post hp => br_t (nI_le (Nat.le_refl 31) (by omega)) hp, fun post hp => br_t (nI_le (Nat.le_refl 31) (by omega)) hp⟩
  | succ n ih =>
    intro i b hi
    have hi' : i < 31 := by omega
    have c31 : ¬ (31 : Int32) ≤ nI i := nI_ge (b := 31) hi' (by decide)
    have ew : (nI w).toNatClampNeg = w := nI_clamp (by omega)
    have X : ∀ (post : Int32 → Prop) (A B : Prop), (bt (iu w) i = true → B) → (¬ bt (iu w) i = true → A) → vp_in (nI w) 31 ∧ wpX_holds (fun r => (r = 0 → A) ∧ (¬ r = 0 → B)) (iu (nI w).toNatClampNeg) (nI i) := fun post A B f1 f0 => by
      rw [ew]
      exact ⟨vp_in_nI hw (by decide), xw_hb hi' f1 f0⟩
    have Y : ∀ (post : Int32 → Prop) (A B : Prop), (bt (iu w) i = true → B) → (¬ bt (iu w) i = true → A) → wpY_has (fun r => (r = 0 → A) ∧ (¬ r = 0 → B)) (d, s, g, a) 6 ((((1 : Int32) <<< (p0 &&& 31)) - 1) + p1) (nI i) := fun post A B f1 f0 => by
      rw [e]
      refine yw_hb (r := 6) (by omega) hi' (fun z => f1 ?_) (fun z => f0 ?_)
      · rw [← hu w hw]; exact z
      · rw [← hu w hw]; exact z
    by_cases hb : bt (iu w) i = true
    · by_cases hk : b = k
      · refine ⟨(16 * nI (wn_ln i)) + (nI i - ((((1 : Int32) <<< (nI (wn_ln i) &&& 31)) - 1) + 0)), fun post hp => ?_, fun post hp => ?_⟩
        · refine br_f c31 (X post _ _ (fun _ => br_t hk ?_) (fun z => absurd hb z))
          exact xw_len hi' (nm_e hp)
        · refine br_f c31 (Y post _ _ (fun _ => br_t hk ?_) (fun z => absurd hb z))
          refine yw_len hi' ?_
          rw [qi_t i hi']
          exact hp
      · obtain ⟨r, rX, rY⟩ := ih (i + 1) (b + 1) (by omega)
        refine ⟨r, fun post hp => ?_, fun post hp => ?_⟩
        · exact br_f c31 (X post _ _ (fun _ => br_f hk (nm_e (nm_r (nI_1 i) (rX post hp)))) (fun z => absurd hb z))
        · exact br_f c31 (Y post _ _ (fun _ => br_f hk (nm_e (nm_r (nI_1 i) (rY post hp)))) (fun z => absurd hb z))
    · obtain ⟨r, rX, rY⟩ := ih (i + 1) b (by omega)
      refine ⟨r, fun post hp => ?_, fun post hp => ?_⟩
      · exact br_f c31 (X post _ _ (fun z => absurd z hb) (fun _ => nm_r (nI_1 i) (rX post hp)))
      · exact br_f c31 (Y post _ _ (fun z => absurd z hb) (fun _ => nm_r (nI_1 i) (rY post hp)))
end QS
end
section
/-! the questions, X against Y -/
theorem i_vc_pairs {k : Nat} {u : SX} {v : SY} (I : i_Rel k u v) (hk : k + 5 ≤ 2560) : wpX_pairs (fun r => wpY_pairs (fun r' => r' = r ∧ i_Rel (k + 5) u v) v) u := by
  have J := I
  obtain ⟨h, s, p, st, iu, m, a, h1, h2, h3, rfl, rfl, hs, hu⟩ := I
  exact xw_pairs (yw_pairs hu ⟨rfl, J⟩)
theorem i_vc_fixed {k : Nat} {u : SX} {v : SY} (I : i_Rel k u v) (hk : k + 5 ≤ 2560) : wpX_fixed (fun r => wpY_fixed (fun r' => r' = r ∧ i_Rel (k + 5) u v) v) u := by
  have J := I
  obtain ⟨h, s, p, st, iu, m, a, h1, h2, h3, rfl, rfl, hs, hu⟩ := I
  exact xw_fixed (yw_fixed hu ⟨rfl, J⟩)
theorem i_vc_twoSteps {k : Nat} {u : SX} {v : SY} (I : i_Rel k u v) (hk : k + 5 ≤ 2560) : wpX_twoSteps (fun r => wpY_twoSteps (fun r' => r' = r ∧ i_Rel (k + 5) u v) v) u := by
  have J := I
  obtain ⟨h, s, p, st, iu, m, a, h1, h2, h3, rfl, rfl, hs, hu⟩ := I
  exact xw_twoSteps (yw_twoSteps hu ⟨rfl, J⟩)
theorem i_vc_domain {k : Nat} {u : SX} {v : SY} (I : i_Rel k u v) (hk : k + 5 ≤ 2560) : wpX_domain (fun r => wpY_domain (fun r' => r' = r ∧ i_Rel (k + 5) u v) v) u := by
  have J := I
  obtain ⟨h, s, p, st, iu, m, a, h1, h2, h3, rfl, rfl, hs, hu⟩ := I
  unfold wpX_domain
  dsimp only
  refine xw_left (k := 1) (by decide) ?_
  exact yw_domain hu ⟨rfl, J⟩
theorem i_vc_manyValued {k : Nat} {u : SX} {v : SY} (I : i_Rel k u v) (hk : k + 5 ≤ 2560) : wpX_manyValued (fun r => wpY_manyValued (fun r' => r' = r ∧ i_Rel (k + 5) u v) v) u := by
  have J := I
  obtain ⟨h, s, p, st, iu, m, a, h1, h2, h3, rfl, rfl, hs, hu⟩ := I
  unfold wpX_manyValued
  dsimp only
  refine xw_left (k := 2) (by decide) ?_
  exact yw_manyValued hu ⟨rfl, J⟩
theorem i_vc_related {k : Nat} {u : SX} {v : SY} (I : i_Rel k u v) (hk : k + 5 ≤ 2560) (v1 : Int32) (v2 : Int32) (v3 : Int32) (v4 : Int32) : wpX_related (fun r => wpY_related (fun r' => r' = r ∧ i_Rel (k + 5) u v) v v1 v2 v3 v4) u v1 v2 v3 v4 := by
  have J := I
  obtain ⟨h, s, p, st, iu, m, a, h1, h2, h3, rfl, rfl, hs, hu⟩ := I
  obtain ⟨r1, c1, x1, y1⟩ := qv_valid v1 v2
  obtain ⟨r2, c2, x2, y2⟩ := qv_valid v3 v4
  unfold wpX_related wpY_related
  dsimp only
  refine x1 _ ?_
  rcases c1 with rfl | ⟨rfl, w, hw, e⟩
  · exact br_t rfl (y1 _ _ _ _ _ (br_t rfl ⟨rfl, J⟩))
  refine br_f xw_10 (x2 _ ?_)
  rcases c2 with rfl | ⟨rfl, w', hw', e'⟩
  · exact br_t rfl (y1 _ _ _ _ _ (br_f xw_10 (y2 _ _ _ _ _ (br_t rfl ⟨rfl, J⟩))))
  refine br_f xw_10 (xw_wn e (xw_wn e' ⟨vp_in_nI hw (by decide), ?_⟩))
  rw [e, e', nI_clamp (n := w) (by omega)]
  have q : a (31 * 6 + w) = iu w := hu w hw
  refine xw_holds hw' (fun hb => ⟨rfl, y1 _ _ _ _ _ (br_f xw_10 (y2 _ _ _ _ _ (br_f xw_10 ?_)))⟩) (fun hb => ⟨rfl, y1 _ _ _ _ _ (br_f xw_10 (y2 _ _ _ _ _ (br_f xw_10 ?_)))⟩)
  · exact yw_hb (r := 6) (by omega) hw' (fun _ => ⟨rfl, J⟩) (fun z => absurd (by rw [q]; exact hb) z)
  · exact yw_hb (r := 6) (by omega) hw' (fun z => absurd (by rw [← q]; exact z) hb) (fun _ => ⟨rfl, J⟩)
theorem i_vc_images {k : Nat} {u : SX} {v : SY} (I : i_Rel k u v) (hk : k + 5 ≤ 2560) (v1 : Int32) (v2 : Int32) : wpX_images (fun r => wpY_images (fun r' => r' = r ∧ i_Rel (k + 5) u v) v v1 v2) u v1 v2 := by
  have J := I
  obtain ⟨h, s, p, st, iu, m, a, h1, h2, h3, rfl, rfl, hs, hu⟩ := I
  obtain ⟨r1, c1, x1, y1⟩ := qv_valid v1 v2
  unfold wpX_images wpY_images
  dsimp only
  refine x1 _ ?_
  rcases c1 with rfl | ⟨rfl, w, hw, e⟩
  · exact br_t rfl (y1 _ _ _ _ _ (br_t rfl ⟨rfl, J⟩))
  refine br_f xw_10 (xw_wn e ⟨vp_in_nI hw (by decide), ?_⟩)
  rw [e, nI_clamp (n := w) (by omega)]
  refine xw_size (y1 _ _ _ _ _ (br_f xw_10 (yw_imagesOf hw ?_)))
  rw [hu w hw]
  exact ⟨rfl, J⟩
theorem i_vc_sources {k : Nat} {u : SX} {v : SY} (I : i_Rel k u v) (hk : k + 5 ≤ 2560) (v1 : Int32) (v2 : Int32) : wpX_sources (fun r => wpY_sources (fun r' => r' = r ∧ i_Rel (k + 5) u v) v v1 v2) u v1 v2 := by
  have J := I
  obtain ⟨h, s, p, st, iu, m, a, h1, h2, h3, rfl, rfl, hs, hu⟩ := I
  obtain ⟨r1, c1, x1, y1⟩ := qv_valid v1 v2
  unfold wpX_sources wpY_sources
  dsimp only
  refine x1 _ ?_
  rcases c1 with rfl | ⟨rfl, w, hw, e⟩
  · exact br_t rfl (y1 _ _ _ _ _ (br_t rfl ⟨rfl, J⟩))
  refine br_f xw_10 (xw_wn e ?_)
  refine xw_src hw ?_
  refine y1 _ _ _ _ _ (br_f xw_10 ?_)
  exact yw_src hu e hw ⟨rfl, J⟩
theorem i_vc_image {k : Nat} {u : SX} {v : SY} (I : i_Rel k u v) (hk : k + 5 ≤ 2560) (v1 : Int32) (v2 : Int32) (v3 : Int32) : wpX_image (fun r => wpY_image (fun r' => r' = r ∧ i_Rel (k + 5) u v) v v1 v2 v3) u v1 v2 v3 := by
  have J := I
  obtain ⟨h, s, p, st, iu, m, a, h1, h2, h3, rfl, rfl, hs, hu⟩ := I
  obtain ⟨r1, c1, x1, y1⟩ := qv_valid v1 v2
  unfold wpX_image wpY_image
  dsimp only
  refine x1 _ ?_
  rcases c1 with rfl | ⟨rfl, w, hw, e⟩
  · exact br_t rfl (y1 _ _ _ _ _ (br_t rfl ⟨rfl, J⟩))
  refine br_f xw_10 (xw_wn e ?_)
  obtain ⟨r, rX, rY⟩ := qi_scan (d := nI h) (s := nI s) (g := nI p) (h := nI h) (t := nI s) (p := nI p) (st := st) (m := m) (k := v3) hu e hw 31 0 0 rfl
  refine ⟨32, rX _ ?_⟩
  refine y1 _ _ _ _ _ (br_f xw_10 ?_)
  exact ⟨32, rY _ ⟨rfl, J⟩⟩
end
