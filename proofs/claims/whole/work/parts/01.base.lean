theorem pk_us {f : Nat → Int32} {k : Nat} {x : Int32} : upd f k x k = x := if_pos rfl
theorem pk_un {f : Nat → Int32} {k j : Nat} {x : Int32} (h : j ≠ k) : upd f k x j = f j := if_neg h
theorem pk_sub {a b : Nat} (h : b ≤ a) : nI a - nI b = nI (a - b) := by
  obtain ⟨c, rfl⟩ : ∃ c, a = c + b := ⟨a - b, by omega⟩
  rw [← nI_add, Int32.add_sub_cancel, Nat.add_sub_cancel]
theorem pk_mul (a b : Nat) : nI a * nI b = nI (a * b) := (Int32.ofNat_mul a b).symm
theorem pk_div {a d : Nat} (ha : a < 2 ^ 31) (h0 : 0 < d) (hd : d < 2 ^ 31) : nI a / nI d = nI (a / d) := by
  apply Int32.toInt_inj.mp
  rw [lg_idiv_nonneg (by rw [nI_toInt ha]; omega) (by rw [nI_toInt hd]; omega), nI_toInt ha, nI_toInt hd, nI_toInt (Nat.lt_of_le_of_lt (Nat.div_le_self a d) ha)]
  first | rfl | exact (Int.natCast_ediv _ _).symm
theorem pk_rem {a d : Nat} (ha : a < 2 ^ 31) (h0 : 0 < d) (hd : d < 2 ^ 31) : nI a - nI a / nI d * nI d = nI (a % d) := by
  rw [pk_div ha h0 hd, pk_mul, pk_sub (Nat.div_mul_le_self a d)]
  exact congrArg nI (by have := Nat.div_add_mod' a d; omega)
theorem pk_le {x y : Int32} {A B : Prop} (a b : Nat) (f : a ≤ b → A) (g : b < a → B) (hx : x = nI a := by rfl) (hy : y = nI b := by rfl) (ha : a < 2 ^ 31 := by omega) (hb : b < 2 ^ 31 := by omega) : (x ≤ y → A) ∧ (¬ x ≤ y → B) := by
  subst hx hy
  rw [nI_leI ha hb]
  exact ⟨f, fun z => g (by omega)⟩
theorem pk_lt {x y : Int32} {A B : Prop} (a b : Nat) (f : a < b → A) (g : b ≤ a → B) (hx : x = nI a := by rfl) (hy : y = nI b := by rfl) (ha : a < 2 ^ 31 := by omega) (hb : b < 2 ^ 31 := by omega) : (x < y → A) ∧ (¬ x < y → B) := by
  subst hx hy
  rw [nI_ltI ha hb]
  exact ⟨f, fun z => g (by omega)⟩
theorem pk_eq {x y : Int32} {A B : Prop} (a b : Nat) (f : a = b → A) (g : a ≠ b → B) (hx : x = nI a := by rfl) (hy : y = nI b := by rfl) (ha : a < 2 ^ 31 := by omega) (hb : b < 2 ^ 31 := by omega) : (x = y → A) ∧ (¬ x = y → B) := by
  subst hx hy
  rw [nI_eq ha hb]
  exact ⟨f, g⟩
theorem pk_in {x : Int32} (n N : Nat) (h : n < N) (hx : x = nI n := by rfl) (hN : N < 2 ^ 31 := by omega) : vp_in x N := by
  subst hx
  exact vp_in_nI h hN
theorem pk_cl {x : Int32} (n : Nat) (hx : x = nI n := by rfl) (h : n < 2 ^ 31 := by omega) : x.toNatClampNeg = n := by
  subst hx
  exact nI_clamp h
theorem pk_tn {n : Nat} (h : n < 2 ^ 32) : (nI n).toBitVec.toNat = n := Nat.mod_eq_of_lt h
theorem pk_and (x : Int32) {m : Int32} (k : Nat) (hm : m.toBitVec.toNat = 2 ^ k - 1) : x &&& m = nI (x.toBitVec.toNat % 2 ^ k) := by
  apply Int32.toBitVec_inj.mp
  apply BitVec.eq_of_toNat_eq
  rw [Int32.toBitVec_and, BitVec.toNat_and, hm, Nat.and_two_pow_sub_one_eq_mod]
  show _ = (BitVec.ofNat 32 _).toNat
  rw [BitVec.toNat_ofNat]
  exact (Nat.mod_eq_of_lt (Nat.lt_of_le_of_lt (Nat.mod_le _ _) x.toBitVec.isLt)).symm
def bt (x : Int32) (i : Nat) : Bool := x.toBitVec.getLsbD i
theorem b_ext {x y : Int32} (h : ∀ i, i < 32 → bt x i = bt y i) : x = y := Int32.toBitVec_inj.mp (BitVec.eq_of_getLsbD_eq (fun i hi => h i hi))
theorem b_or (x y : Int32) (i : Nat) : bt (x ||| y) i = (bt x i || bt y i) := by unfold bt; rw [Int32.toBitVec_or, BitVec.getLsbD_or]
theorem b_and (x y : Int32) (i : Nat) : bt (x &&& y) i = (bt x i && bt y i) := by unfold bt; rw [Int32.toBitVec_and, BitVec.getLsbD_and]
theorem b_big {x : Int32} {i : Nat} (h : 32 ≤ i) : bt x i = false := BitVec.getLsbD_of_ge _ _ h
theorem b_0 (i : Nat) : bt 0 i = false := BitVec.getLsbD_zero
theorem s_l : ∀ n, n < 32 → ((nI n &&& 31).toBitVec.smod 32).toNat = n := by decide +kernel
theorem b_shl (n : Nat) (hn : n < 32) (x : Int32) {i : Nat} (hi : i < 32) : bt (x <<< (nI n &&& 31)) i = (decide (n ≤ i) && bt x (i - n)) := by
  unfold bt
  rw [Int32.toBitVec_shiftLeft]
  show (x.toBitVec <<< ((nI n &&& 31).toBitVec.smod 32).toNat).getLsbD i = _
  rw [s_l n hn, BitVec.getLsbD_shiftLeft]
  rcases Nat.lt_or_ge i n with h | h
  · simp [h, Nat.not_le.mpr h]
  · simp [hi, h, Nat.not_lt.mpr h]
theorem b_sshr (n : Nat) (hn : n < 32) (x : Int32) {i : Nat} (hi : i < 32) : bt (x >>> (nI n &&& 31)) i = if n + i < 32 then bt x (n + i) else bt x 31 := by
  unfold bt
  rw [Int32.toBitVec_shiftRight]
  show (x.toBitVec.sshiftRight ((nI n &&& 31).toBitVec.smod 32).toNat).getLsbD i = _
  rw [s_l n hn, BitVec.getLsbD_sshiftRight, BitVec.msb_eq_getLsbD_last]
  simp [hi]
/-! words by their numbers -/
def wn_ln (w : Nat) : Nat := if w < 1 then 0 else if w < 3 then 1 else if w < 7 then 2 else if w < 15 then 3 else 4
def wn_rm (w : Nat) : Nat := 2 ^ (5 - wn_ln w) - 1
def wn_jn (a b : Nat) : Nat := a * 2 ^ wn_ln b + b
def wn_hd (w p : Nat) : Nat := 2 ^ p - 1 + (w - (2 ^ wn_ln w - 1)) / 2 ^ (wn_ln w - p)
def wn_tl (w p : Nat) : Nat := 2 ^ (wn_ln w - p) - 1 + (w - (2 ^ wn_ln w - 1)) % 2 ^ (wn_ln w - p)
def wn_J (a b w : Nat) : Prop := a < 31 ∧ b < wn_rm a ∧ wn_jn a b = w
theorem wn_t1 : ∀ a, a < 31 → ∀ b, b < wn_rm a → wn_jn a b < 31 ∧ b < 31 ∧ wn_ln a ≤ wn_ln (wn_jn a b) ∧ wn_hd (wn_jn a b) (wn_ln a) = a ∧ wn_tl (wn_jn a b) (wn_ln a) = b := by decide +kernel
theorem wn_t2 : ∀ w, w < 31 → ∀ p, p < wn_ln w + 1 → wn_hd w p < 31 ∧ wn_tl w p < wn_rm (wn_hd w p) ∧ wn_jn (wn_hd w p) (wn_tl w p) = w ∧ wn_tl w p < 31 := by decide +kernel
theorem wn_t2p : ∀ w, w < 31 → ∀ p, p < wn_ln w + 1 → (0 < p ↔ 0 < wn_hd w p) := by decide +kernel
theorem wn_t3 : ∀ a, a < 31 → ∀ b, b < wn_rm a → ∀ c, c < wn_rm (wn_jn a b) → c < wn_rm b ∧ wn_jn b c < wn_rm a ∧ wn_jn a (wn_jn b c) = wn_jn (wn_jn a b) c := by decide +kernel
theorem wn_t4 : ∀ b, b < 31 → ∀ c, c < wn_rm b → ∀ a, a < 31 → wn_jn b c < wn_rm a → b < wn_rm a ∧ c < wn_rm (wn_jn a b) := by decide +kernel
theorem wn_t5 : ∀ a, a < 31 → (0 < wn_ln a ↔ 0 < a) ∧ wn_ln a ≤ 4 := by decide +kernel
theorem wn_t6 : ∀ a, a < 31 → ∀ b, b < wn_rm a → wn_ln (wn_jn a b) = wn_ln a + wn_ln b := by decide +kernel
theorem wn_r0 : ∀ b, b < 31 → b < wn_rm 0 ∧ wn_jn 0 b = b ∧ 0 < wn_rm b ∧ wn_jn b 0 = b := by decide +kernel
theorem wn_rl : ∀ a, a < 31 → wn_rm a ≤ 31 := by decide +kernel
theorem wn_Jlt {a b w : Nat} (h : wn_J a b w) : w < 31 ∧ b < 31 := by
  obtain ⟨h1, h2, h3⟩ := h
  have := wn_t1 a h1 b h2
  exact ⟨by rw [← h3]; exact this.1, this.2.1⟩
theorem wn_J0 {b : Nat} (h : b < 31) : wn_J 0 b b := ⟨by decide, (wn_r0 b h).1, (wn_r0 b h).2.1⟩
theorem wn_J0r {a : Nat} (h : a < 31) : wn_J a 0 a := ⟨h, (wn_r0 a h).2.2.1, (wn_r0 a h).2.2.2⟩
theorem wn_J0e {b w : Nat} (h : wn_J 0 b w) : w = b := by
  have hb := (wn_Jlt h).2
  exact h.2.2.symm.trans (wn_r0 b hb).2.1
theorem wn_JL {a b x c w : Nat} (h : wn_J a b x) (h' : wn_J x c w) : ∃ y, wn_J b c y ∧ wn_J a y w := by
  obtain ⟨h1, h2, rfl⟩ := h
  obtain ⟨g1, g2, rfl⟩ := h'
  have t := wn_t3 a h1 b h2 c g2
  exact ⟨wn_jn b c, ⟨(wn_t1 a h1 b h2).2.1, t.1, rfl⟩, h1, t.2.1, t.2.2⟩
theorem wn_JR {a b y c w : Nat} (h : wn_J b c y) (h' : wn_J a y w) : ∃ x, wn_J a b x ∧ wn_J x c w := by
  obtain ⟨h1, h2, rfl⟩ := h
  obtain ⟨g1, g2, rfl⟩ := h'
  have t := wn_t4 b h1 c h2 a g1 g2
  have t3 := wn_t3 a g1 b t.1 c t.2
  exact ⟨wn_jn a b, ⟨g1, t.1, rfl⟩, (wn_t1 a g1 b t.1).1, t.2, t3.2.2.symm⟩
theorem wn_Jc {w p : Nat} (hw : w < 31) (hp : p ≤ wn_ln w) : wn_J (wn_hd w p) (wn_tl w p) w :=
  have t := wn_t2 w hw p (by omega)
  ⟨t.1, t.2.1, t.2.2.1⟩
theorem wn_Jp {a b w : Nat} (h : wn_J a b w) : ∃ p, p ≤ wn_ln w ∧ wn_hd w p = a ∧ wn_tl w p = b := by
  obtain ⟨h1, h2, rfl⟩ := h
  have t := wn_t1 a h1 b h2
  exact ⟨wn_ln a, t.2.2.1, t.2.2.2.1, t.2.2.2.2⟩
theorem wn_Jle {a b w : Nat} (h : wn_J a b w) : b ≤ w ∧ (0 < a → b < w) := by
  obtain ⟨h1, h2, rfl⟩ := h
  refine ⟨Nat.le_add_left _ _, fun ha => ?_⟩
  have : 0 < a * 2 ^ wn_ln b := Nat.mul_pos ha (Nat.two_pow_pos _)
  show b < a * 2 ^ wn_ln b + b
  omega
/-! relations of words -/
def rl_cat (R S : Nat → Nat → Prop) (u v : Nat) : Prop := ∃ a b c d, wn_J a b u ∧ wn_J c d v ∧ R a c ∧ S b d
def rl_ct1 (R S : Nat → Nat → Prop) (u v : Nat) : Prop := ∃ a b c d, wn_J a b u ∧ wn_J c d v ∧ (0 < a ∨ 0 < c) ∧ R a c ∧ S b d
def rl_z (R : Nat → Nat → Prop) (u v : Nat) : Prop := (u = 0 ∧ v = 0) ∨ R u v
def rl_pw (R : Nat → Nat → Prop) : Nat → Nat → Nat → Prop
  | 0 => fun u v => u = 0 ∧ v = 0
  | n + 1 => rl_cat (rl_z R) (rl_pw R n)
theorem rl_cat_lt {R S : Nat → Nat → Prop} {u v : Nat} (h : rl_cat R S u v) : u < 31 ∧ v < 31 := by
  obtain ⟨a, b, c, d, h1, h2, _⟩ := h
  exact ⟨(wn_Jlt h1).1, (wn_Jlt h2).1⟩
theorem rl_cat_mono {R S R' S' : Nat → Nat → Prop} (hR : ∀ u, u < 31 → ∀ v, v < 31 → R u v → R' u v) (hS : ∀ u, u < 31 → ∀ v, v < 31 → S u v → S' u v) {u v : Nat} (h : rl_cat R S u v) : rl_cat R' S' u v := by
  obtain ⟨a, b, c, d, h1, h2, h3, h4⟩ := h
  exact ⟨a, b, c, d, h1, h2, hR a h1.1 c h2.1 h3, hS b (wn_Jlt h1).2 d (wn_Jlt h2).2 h4⟩
theorem rl_assoc {R S T : Nat → Nat → Prop} {u v : Nat} : rl_cat (rl_cat R S) T u v ↔ rl_cat R (rl_cat S T) u v := by
  constructor
  · rintro ⟨x, c, x', c', h1, h2, ⟨a, b, a', b', g1, g2, hR, hS⟩, hT⟩
    obtain ⟨y, k1, k2⟩ := wn_JL g1 h1
    obtain ⟨y', k1', k2'⟩ := wn_JL g2 h2
    exact ⟨a, y, a', y', k2, k2', hR, b, c, b', c', k1, k1', hS, hT⟩
  · rintro ⟨a, y, a', y', h1, h2, hR, ⟨b, c, b', c', g1, g2, hS, hT⟩⟩
    obtain ⟨x, k1, k2⟩ := wn_JR g1 h1
    obtain ⟨x', k1', k2'⟩ := wn_JR g2 h2
    exact ⟨x, c, x', c', k2, k2', ⟨a, b, a', b', k1, k1', hR, hS⟩, hT⟩
theorem rl_pw_lt {R : Nat → Nat → Prop} {n u v : Nat} (h : rl_pw R n u v) : u < 31 ∧ v < 31 := by
  cases n with
  | zero => obtain ⟨rfl, rfl⟩ := h; exact ⟨by decide, by decide⟩
  | succ n => exact rl_cat_lt h
theorem rl_pw_add {R : Nat → Nat → Prop} {m n : Nat} : ∀ {u v : Nat}, rl_cat (rl_pw R m) (rl_pw R n) u v ↔ rl_pw R (m + n) u v := by
  induction m with
  | zero =>
    intro u v
    rw [Nat.zero_add]
    constructor
    · rintro ⟨a, b, c, d, h1, h2, ⟨rfl, rfl⟩, h4⟩
      rw [wn_J0e h1, wn_J0e h2]; exact h4
    · intro h
      have l := rl_pw_lt h
      exact ⟨0, u, 0, v, wn_J0 l.1, wn_J0 l.2, ⟨rfl, rfl⟩, h⟩
  | succ m ih =>
    intro u v
    rw [show m + 1 + n = (m + n) + 1 by omega]
    show rl_cat (rl_cat (rl_z R) (rl_pw R m)) (rl_pw R n) u v ↔ rl_cat (rl_z R) (rl_pw R (m + n)) u v
    rw [rl_assoc]
    exact ⟨rl_cat_mono (fun _ _ _ _ h => h) (fun _ _ _ _ h => ih.mp h), rl_cat_mono (fun _ _ _ _ h => h) (fun _ _ _ _ h => ih.mpr h)⟩
theorem rl_pw_up {R : Nat → Nat → Prop} {n u v : Nat} (h : rl_pw R n u v) : rl_pw R (n + 1) u v := by
  have l := rl_pw_lt h
  exact ⟨0, u, 0, v, wn_J0 l.1, wn_J0 l.2, Or.inl ⟨rfl, rfl⟩, h⟩
theorem rl_pw_mono {R : Nat → Nat → Prop} {n u v : Nat} (h : rl_pw R n u v) : ∀ k, rl_pw R (n + k) u v := by
  intro k
  induction k with
  | zero => exact h
  | succ k ih => exact rl_pw_up ih
theorem rl_pw_le {R : Nat → Nat → Prop} {n m u v : Nat} (h : rl_pw R n u v) (hm : n ≤ m) : rl_pw R m u v := by
  have := rl_pw_mono h (m - n)
  rwa [show n + (m - n) = m by omega] at this
theorem rl_pw_len {R : Nat → Nat → Prop} : ∀ {n u v : Nat}, rl_pw R n u v → rl_pw R (wn_ln u + wn_ln v) u v := by
  intro n
  induction n with
  | zero => rintro u v ⟨rfl, rfl⟩; exact ⟨rfl, rfl⟩
  | succ n ih =>
    rintro u v ⟨a, b, c, d, h1, h2, h3, h4⟩
    by_cases z : a = 0 ∧ c = 0
    · obtain ⟨rfl, rfl⟩ := z
      rw [wn_J0e h1, wn_J0e h2]; exact ih h4
    · have k : rl_pw R (wn_ln b + wn_ln d + 1) u v := ⟨a, b, c, d, h1, h2, h3, ih h4⟩
      refine rl_pw_le k ?_
      have e1 := wn_t6 a h1.1 b h1.2.1
      have e2 := wn_t6 c h2.1 d h2.2.1
      rw [h1.2.2] at e1
      rw [h2.2.2] at e2
      have f1 := (wn_t5 a h1.1).1
      have f2 := (wn_t5 c h2.1).1
      omega
theorem rl_pw_8 {R : Nat → Nat → Prop} {n u v : Nat} (h : rl_pw R n u v) : rl_pw R 8 u v := by
  have l := rl_pw_lt h
  exact rl_pw_le (rl_pw_len h) (by have := (wn_t5 u l.1).2; have := (wn_t5 v l.2).2; omega)
theorem rl_s1 {R : Nat → Nat → Prop} {u v : Nat} (h : rl_ct1 R (rl_pw R 8) u v) : rl_pw R 8 u v := by
  obtain ⟨a, b, c, d, h1, h2, _, h3, h4⟩ := h
  exact rl_pw_8 (n := 9) ⟨a, b, c, d, h1, h2, Or.inr h3, h4⟩
theorem rl_s2 {R : Nat → Nat → Prop} : ∀ {n u v : Nat}, rl_pw R n u v → ¬ (u = 0 ∧ v = 0) → rl_ct1 R (rl_pw R 8) u v := by
  intro n
  induction n with
  | zero => intro u v h hn; exact absurd h hn
  | succ n ih =>
    rintro u v ⟨a, b, c, d, h1, h2, h3, h4⟩ hn
    by_cases z : a = 0 ∧ c = 0
    · obtain ⟨rfl, rfl⟩ := z
      rw [wn_J0e h1, wn_J0e h2] at hn ⊢; exact ih h4 hn
    · exact ⟨a, b, c, d, h1, h2, by omega, h3.resolve_left z, rl_pw_8 h4⟩
theorem rl_pw_1 {R : Nat → Nat → Prop} {u v : Nat} (hu : u < 31) (hv : v < 31) : rl_pw R 1 u v ↔ rl_z R u v := by
  constructor
  · rintro ⟨a, b, c, d, h1, h2, h3, ⟨rfl, rfl⟩⟩
    have e1 : a = u := (wn_r0 a h1.1).2.2.2.symm.trans h1.2.2
    have e2 : c = v := (wn_r0 c h2.1).2.2.2.symm.trans h2.2.2
    rw [← e1, ← e2]; exact h3
  · intro h
    exact ⟨u, 0, v, 0, wn_J0r hu, wn_J0r hv, h, rfl, rfl⟩
/-! bits -/
theorem bq_1 : ∀ i, i < 32 → bt 1 i = decide (i = 0) := by decide +kernel
theorem bq_c (y : Int32) : y &&& 1 = if bt y 0 = true then 1 else 0 := by
  apply b_ext
  intro i hi
  rw [b_and, bq_1 i hi]
  by_cases h : i = 0
  · subst h
    by_cases g : bt y 0 = true
    · rw [if_pos g, g]; decide
    · rw [if_neg g, Bool.not_eq_true _ |>.mp g]; decide
  · rw [decide_eq_false h, Bool.and_false]
    by_cases g : bt y 0 = true
    · rw [if_pos g, bq_1 i hi, decide_eq_false h]
    · rw [if_neg g, b_0]
theorem bq_s (x : Int32) {v : Nat} (hv : v < 32) : (x >>> (nI v &&& 31)) &&& 1 = if bt x v = true then 1 else 0 := by
  have e : bt (x >>> (nI v &&& 31)) 0 = bt x v := by
    rw [b_sshr v hv x (by decide), if_pos (show v + 0 < 32 by omega), Nat.add_zero]
  rw [bq_c, e]
theorem bq_z (x : Int32) {v : Nat} (hv : v < 32) : (x >>> (nI v &&& 31)) &&& 1 = 0 ↔ ¬ bt x v = true := by
  rw [bq_s x hv]
  by_cases g : bt x v = true
  · rw [if_pos g]; exact ⟨fun h => absurd h (by decide), fun h => absurd g h⟩
  · rw [if_neg g]; exact ⟨fun _ => g, fun _ => rfl⟩
theorem bq_o (x : Int32) {v : Nat} (hv : v < 32) : (x >>> (nI v &&& 31)) &&& 1 = 1 ↔ bt x v = true := by
  rw [bq_s x hv]
  by_cases g : bt x v = true
  · rw [if_pos g]; exact ⟨fun _ => g, fun _ => rfl⟩
  · rw [if_neg g]; exact ⟨fun h => absurd h (by decide), fun h => absurd h g⟩
theorem bq_b {k : Nat} (hk : k < 32) (j : Nat) : bt ((1 : Int32) <<< (nI k &&& 31)) j = true ↔ j = k := by
  by_cases hj : j < 32
  · rw [b_shl k hk 1 hj]
    by_cases h : k ≤ j
    · rw [decide_eq_true h, Bool.true_and, bq_1 _ (by omega), decide_eq_true_iff]; omega
    · rw [decide_eq_false h, Bool.false_and]
      exact ⟨fun z => Bool.noConfusion z, fun z => by omega⟩
  · rw [b_big (by omega)]
    exact ⟨fun z => Bool.noConfusion z, fun z => by omega⟩
theorem bq_set (x : Int32) {k : Nat} (hk : k < 32) (j : Nat) : bt (x ||| ((1 : Int32) <<< (nI k &&& 31))) j = true ↔ bt x j = true ∨ j = k := by
  rw [b_or, Bool.or_eq_true, bq_b hk]
theorem bq_or (x y : Int32) (j : Nat) : bt (x ||| y) j = true ↔ bt x j = true ∨ bt y j = true := by
  rw [b_or, Bool.or_eq_true]
theorem bq_n0 (j : Nat) : ¬ bt 0 j = true := by rw [b_0]; exact Bool.noConfusion
theorem bq_ext {x y : Int32} {P : Nat → Prop} (hx : ∀ j, bt x j = true ↔ P j) (hy : ∀ j, bt y j = true ↔ P j) : x = y :=
  b_ext fun i _ => Bool.eq_iff_iff.mpr ((hx i).trans (hy i).symm)
