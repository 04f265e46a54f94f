/-! the component's helpers, each with a general post -/
theorem xw_t1 : ∀ w, w < 31 → ∀ i, i < wn_ln w → ¬ (4 : Int32) ≤ nI i ∧ ¬ nI w < ((2 : Int32) <<< (nI i &&& 31)) - 1 := by decide +kernel
theorem xw_t2 : ∀ w, w < 31 → (4 : Int32) ≤ nI (wn_ln w) ∨ nI w < ((2 : Int32) <<< (nI (wn_ln w) &&& 31)) - 1 := by decide +kernel
theorem xw_t3 : ∀ w, w < 31 → ((2 : Int32) <<< ((4 - nI (wn_ln w)) &&& 31)) - 1 = nI (wn_rm w) := by decide +kernel
theorem xw_t4 : ∀ a, a < 31 → ∀ b, b < wn_rm a → (nI a <<< (nI (wn_ln b) &&& 31)) + nI b = nI (wn_jn a b) := by decide +kernel
theorem xw_10 : ¬ (1 : Int32) = 0 := by decide
theorem xw_ic {a b : Nat} (h : a + b < 2 ^ 31) : (nI a + nI b).toNatClampNeg = a + b := by rw [nI_add, nI_clamp h]
theorem xw_ii {a b N : Nat} (h : a + b < N) (hN : N < 2 ^ 31) : vp_in (nI a + nI b) N := by rw [nI_add]; exact vp_in_nI h hN
theorem xw_len {post : Int32 → Prop} {w : Nat} (hw : w < 31) (h : post (nI (wn_ln w))) : wpX_lengthOf post (nI w) :=
  loop_0 (fun n i (_ : Unit) => wX_lengthOf_2 post (nI w) n (nI i)) (fun _ _ => True) (wn_ln w) () trivial
    (fun n _ _ => br_c (fun _ => h) (fun z => br_t ((xw_t2 w hw).resolve_left z) h))
    (fun n i _ hi _ ih => br_f (xw_t1 w hw i hi).1 (br_f (xw_t1 w hw i hi).2 (nm_r (nI_1 i) (ih () trivial))))
theorem xw_room {post : Int32 → Prop} {w : Nat} (hw : w < 31) (h : post (nI (wn_rm w))) : wpX_wordsThatFitBehind post (nI w) :=
  xw_len hw (nm_e (by rw [xw_t3 w hw]; exact h))
theorem xw_join {post : Int32 → Prop} {a b : Nat} (ha : a < 31) (hb : b < wn_rm a) (h : post (nI (wn_jn a b))) : wpX_joined post (nI a) (nI b) :=
  xw_len (wn_t1 a ha b hb).2.1 (by rw [xw_t4 a ha b hb]; exact h)
theorem xw_holds {post : Int32 → Prop} {x : Int32} {v : Nat} (hv : v < 31) (h1 : bt x v = true → post 1) (h0 : ¬ bt x v = true → post 0) : wpX_holds post x (nI v) :=
  ⟨fun z => h0 ((bq_z x (by omega)).mp z), fun z => h1 (Classical.byContradiction fun g => z ((bq_z x (by omega)).mpr g))⟩
theorem xw_hb {A B : Prop} {x : Int32} {v : Nat} (hv : v < 31) (h1 : bt x v = true → B) (h0 : ¬ bt x v = true → A) : wpX_holds (fun r => (r = 0 → A) ∧ (¬ r = 0 → B)) x (nI v) :=
  xw_holds hv (fun z => br_f xw_10 (h1 z)) (fun z => br_t rfl (h0 z))
theorem xw_aj27 {post : Int32 → Prop} {J4 : Int32 → Int32 → Prop} {F B : Int32} {f : Nat} (hf : f < 31) (s : Int32)
    (hJ : ∀ s', (∀ j, bt s' j = true ↔ bt s j = true ∨ ∃ b, wn_J f b j ∧ bt B b = true) → J4 s' (nI (f + 1))) :
    ∃ n, wX_allJoined_27 post J4 F B (nI f) (nI (wn_rm f)) n s 0 := by
  have hr := wn_rl f hf
  refine loop_0 (fun n i s' => wX_allJoined_27 post J4 F B (nI f) (nI (wn_rm f)) n s' (nI i)) (fun i s' => ∀ j, bt s' j = true ↔ bt s j = true ∨ ∃ b, b < i ∧ wn_J f b j ∧ bt B b = true) (wn_rm f) s ?_ ?_ ?_
  · intro j
    exact ⟨Or.inl, fun h => h.elim id (fun ⟨b, hb, _⟩ => absurd hb (Nat.not_lt_zero _))⟩
  · intro n s' I
    refine br_t (nI_le (Nat.le_refl _) (by omega)) (nm_r (nI_1 f) (hJ s' fun j => (I j).trans ?_))
    exact ⟨fun h => h.imp id (fun ⟨b, _, hb⟩ => ⟨b, hb⟩), fun h => h.imp id (fun ⟨b, hb⟩ => ⟨b, hb.1.2.1, hb⟩)⟩
  · intro n i s' hi I ih
    refine br_f (nI_ge hi (by omega)) (xw_hb (by omega) (fun hb => ?_) (fun hb => ?_))
    · refine xw_join hf hi (nm_e (nm_r (nI_1 i) (ih _ fun j => ?_)))
      have hw := (wn_t1 f hf i hi).1
      rw [bq_set _ (by omega) j, I j]
      constructor
      · rintro ((h | ⟨b, h1, h2⟩) | rfl)
        · exact Or.inl h
        · exact Or.inr ⟨b, by omega, h2⟩
        · exact Or.inr ⟨i, by omega, ⟨hf, hi, rfl⟩, hb⟩
      · rintro (h | ⟨b, h1, h2, h3⟩)
        · exact Or.inl (Or.inl h)
        · by_cases e : b = i
          · subst e; exact Or.inr h2.2.2.symm
          · exact Or.inl (Or.inr ⟨b, by omega, h2, h3⟩)
    · refine nm_r (nI_1 i) (ih _ fun j => (I j).trans ?_)
      constructor
      · rintro (h | ⟨b, h1, h2⟩)
        · exact Or.inl h
        · exact Or.inr ⟨b, by omega, h2⟩
      · rintro (h | ⟨b, h1, h2, h3⟩)
        · exact Or.inl h
        · by_cases e : b = i
          · subst e; exact absurd h3 hb
          · exact Or.inr ⟨b, by omega, h2, h3⟩
theorem xw_allJ {post : Int32 → Prop} {F B : Int32} (h : ∀ r, (∀ j, bt r j = true ↔ ∃ f b, wn_J f b j ∧ bt F f = true ∧ bt B b = true) → post r) : wpX_allJoined post F B := by
  refine loop_0 (fun n i s => wX_allJoined_4 post F B n s (nI i)) (fun i s => ∀ j, bt s j = true ↔ ∃ f b, f < i ∧ wn_J f b j ∧ bt F f = true ∧ bt B b = true) 31 0 ?_ ?_ ?_
  · intro j
    exact ⟨fun z => absurd z (bq_n0 j), fun ⟨f, b, hb, _⟩ => absurd hb (Nat.not_lt_zero _)⟩
  · intro n s I
    refine br_t (nI_le (Nat.le_refl 31) (by omega)) (h s fun j => (I j).trans ?_)
    exact ⟨fun ⟨f, b, _, hb⟩ => ⟨f, b, hb⟩, fun ⟨f, b, hb⟩ => ⟨f, b, hb.1.1, hb⟩⟩
  · intro n i s hi I ih
    refine br_f (nI_ge (b := 31) hi (by decide)) (xw_hb hi (fun hb => ?_) (fun hb => ?_))
    · refine xw_room hi (xw_aj27 hi s fun s' hs' => ih s' fun j => (hs' j).trans ?_)
      rw [I j]
      constructor
      · rintro (⟨f, b, h1, h2⟩ | ⟨b, h2, h3⟩)
        · exact ⟨f, b, by omega, h2⟩
        · exact ⟨i, b, by omega, h2, hb, h3⟩
      · rintro ⟨f, b, h1, h2, h3, h4⟩
        by_cases e : f = i
        · subst e; exact Or.inr ⟨b, h2, h4⟩
        · exact Or.inl ⟨f, b, by omega, h2, h3, h4⟩
    · refine nm_r (nI_1 i) (ih s fun j => (I j).trans ?_)
      constructor
      · rintro ⟨f, b, h1, h2⟩
        exact ⟨f, b, by omega, h2⟩
      · rintro ⟨f, b, h1, h2, h3, h4⟩
        by_cases e : f = i
        · subst e; exact absurd h3 hb
        · exact ⟨f, b, by omega, h2, h3, h4⟩
section XS
variable {h s p : Int32} {st iu m : Nat → Int32}
theorem xw_clear {post : SX → Prop} (hp : ∀ m' : Nat → Int32, (∀ i, i < 31 → m' i = 0) → post (h, s, p, st, iu, m')) : wpX_clearMade post (h, s, p, st, iu, m) := by
  refine loop_0 (fun n i m' => wX_clearMade_2 post h s p n (nI i) st iu m') (fun i m' => ∀ k, k < i → m' k = 0) 31 m (fun k hk => absurd hk (Nat.not_lt_zero _)) ?_ ?_
  · intro n m' I
    exact br_t (nI_le (Nat.le_refl 31) (by omega)) (hp m' I)
  · intro n i m' hi I ih
    refine br_f (nI_ge (b := 31) hi (by decide)) ⟨vp_in_nI hi (by decide), nm_e (nm_r (nI_1 i) (ih _ fun k hk => ?_))⟩
    rw [nI_clamp (by omega)]
    by_cases e : k = i
    · subst e; exact pk_us
    · rw [pk_un e]; exact I k (by omega)
theorem xw_copy {post : SX → Prop} {c : Nat} (hc : c + 31 ≤ 186) (hp : ∀ st' : Nat → Int32, (∀ i, i < 31 → st' (c + i) = m i) → (∀ i, i < c ∨ c + 31 ≤ i → st' i = st i) → post (h, s, p, st', iu, m)) : wpX_copyMadeTo post (h, s, p, st, iu, m) (nI c) := by
  refine loop_0 (fun n i st' => wX_copyMadeTo_2 post (nI c) h s p n (nI i) st' iu m) (fun i st' => (∀ k, k < i → st' (c + k) = m k) ∧ (∀ k, k < c ∨ c + 31 ≤ k → st' k = st k)) 31 st ⟨(fun k hk => absurd hk (Nat.not_lt_zero _)), fun _ _ => rfl⟩ ?_ ?_
  · intro n st' I
    exact br_t (nI_le (Nat.le_refl 31) (by omega)) (hp st' I.1 I.2)
  · intro n i st' hi I ih
    refine br_f (nI_ge (b := 31) hi (by decide)) ⟨vp_in_nI hi (by decide), xw_ii (by omega) (by decide), nm_e (nm_r (nI_1 i) (ih _ ⟨fun k hk => ?_, fun k hk => ?_⟩))⟩
    · rw [xw_ic (by omega), nI_clamp (by omega)]
      by_cases e : k = i
      · subst e; exact pk_us
      · rw [pk_un (by omega)]; exact I.1 k (by omega)
    · rw [xw_ic (by omega), pk_un (by omega)]; exact I.2 k hk
theorem xw_top {post : Int32 → Prop} {d : Nat} (hp : post (nI (31 * d))) : wpX_topStart post (nI (d + 1), s, p, st, iu, m) := by
  unfold wpX_topStart
  dsimp only
  rw [show (nI (d + 1) - 1) * 31 = nI (31 * d) by rw [nI_pred, Nat.mul_comm]; exact pk_mul d 31]
  exact hp
theorem xw_put {post : Int32 → SX → Prop} {d : Nat} (hd : d < 6) (hp : ∀ st' : Nat → Int32, (∀ i, i < 31 → st' (31 * d + i) = m i) → (∀ i, i < 31 * d ∨ 31 * d + 31 ≤ i → st' i = st i) → post (nI (d + 1)) (nI (d + 1), s + 1, p, st', iu, m)) : wpX_putMadeOnTop post (nI (d + 1), s, p, st, iu, m) := by
  unfold wpX_putMadeOnTop
  dsimp only
  refine xw_top ?_
  refine xw_copy (by omega) fun st' h1 h2 => ?_
  exact nm_e (hp st' h1 h2)
theorem xw_mc21 {post : SX → Prop} {J6 : Int32 → (Nat → Int32) → (Nat → Int32) → (Nat → Int32) → Prop} {c1 c2 f : Nat} (h1 : c1 + 31 ≤ 186) (h2 : c2 + 31 ≤ 186) (hf : f < 31)
    (hJ : ∀ m' : Nat → Int32, (∀ w, w < 31 → ∀ j, bt (m' w) j = true ↔ bt (m w) j = true ∨ ∃ b c d, wn_J f b w ∧ wn_J c d j ∧ bt (st (c1 + f)) c = true ∧ bt (st (c2 + b)) d = true) → J6 (nI (f + 1)) st iu m') :
    ∃ n, wX_makeCat_21 post J6 (nI c1) (nI c2) (nI f) (nI (wn_rm f)) h s p n 0 st iu m := by
  have hr := wn_rl f hf
  refine loop_0 (fun n i m' => wX_makeCat_21 post J6 (nI c1) (nI c2) (nI f) (nI (wn_rm f)) h s p n (nI i) st iu m')
    (fun i m' => ∀ w, w < 31 → ∀ j, bt (m' w) j = true ↔ bt (m w) j = true ∨ ∃ b c d, b < i ∧ wn_J f b w ∧ wn_J c d j ∧ bt (st (c1 + f)) c = true ∧ bt (st (c2 + b)) d = true) (wn_rm f) m ?_ ?_ ?_
  · intro w _ j
    exact ⟨Or.inl, fun h => h.elim id (fun ⟨b, _, _, hb, _⟩ => absurd hb (Nat.not_lt_zero _))⟩
  · intro n m' I
    refine br_t (nI_le (Nat.le_refl _) (by omega)) (nm_r (nI_1 f) (hJ m' fun w hw j => (I w hw j).trans ?_))
    exact ⟨fun h => h.imp id (fun ⟨b, c, d, _, hb⟩ => ⟨b, c, d, hb⟩), fun h => h.imp id (fun ⟨b, c, d, hb⟩ => ⟨b, c, d, hb.1.2.1, hb⟩)⟩
  · intro n i m' hi I ih
    have hw := wn_t1 f hf i hi
    refine br_f (nI_ge hi (by omega)) (xw_join hf hi ⟨vp_in_nI hw.1 (by decide), xw_ii (by omega) (by decide), xw_ii (by omega) (by decide), xw_allJ fun r hr => ⟨vp_in_nI hw.1 (by decide), nm_e (nm_r (nI_1 i) (ih _ fun w hw' j => ?_))⟩⟩)
    rw [xw_ic (by omega), xw_ic (by omega)] at hr
    rw [nI_clamp (by omega)]
    by_cases e : w = wn_jn f i
    · subst e
      rw [pk_us, bq_or, I _ hw.1 j, hr j]
      constructor
      · rintro ((z | ⟨b, c, d, z1, z2⟩) | ⟨c, d, z1, z2⟩)
        · exact Or.inl z
        · exact Or.inr ⟨b, c, d, by omega, z2⟩
        · exact Or.inr ⟨i, c, d, by omega, ⟨hf, hi, rfl⟩, z1, z2⟩
      · rintro (z | ⟨b, c, d, z1, z2, z3⟩)
        · exact Or.inl (Or.inl z)
        · by_cases e : b = i
          · subst e; exact Or.inr ⟨c, d, z3⟩
          · exact Or.inl (Or.inr ⟨b, c, d, by omega, z2, z3⟩)
    · rw [pk_un e, I w hw' j]
      constructor
      · rintro (z | ⟨b, c, d, z1, z2⟩)
        · exact Or.inl z
        · exact Or.inr ⟨b, c, d, by omega, z2⟩
      · rintro (z | ⟨b, c, d, z1, z2, z3⟩)
        · exact Or.inl z
        · by_cases e' : b = i
          · subst e'; exact absurd z2.2.2.symm e
          · exact Or.inr ⟨b, c, d, by omega, z2, z3⟩
def xw_R (st : Nat → Int32) (c : Nat) (u v : Nat) : Prop := bt (st (c + u)) v = true
theorem xw_makeCat {post : SX → Prop} {c1 c2 : Nat} (h1 : c1 + 31 ≤ 186) (h2 : c2 + 31 ≤ 186)
    (hp : ∀ m' : Nat → Int32, (∀ u, u < 31 → ∀ v, bt (m' u) v = true ↔ rl_cat (xw_R st c1) (xw_R st c2) u v) → post (h, s, p, st, iu, m')) : wpX_makeCat post (h, s, p, st, iu, m) (nI c1) (nI c2) := by
  unfold wpX_makeCat
  dsimp only
  refine xw_clear fun m0 hm0 => ?_
  refine loop_0 (fun n i m' => wX_makeCat_6 post (nI c1) (nI c2) h s p n (nI i) st iu m')
    (fun i m' => ∀ w, w < 31 → ∀ j, bt (m' w) j = true ↔ ∃ f b c d, f < i ∧ wn_J f b w ∧ wn_J c d j ∧ bt (st (c1 + f)) c = true ∧ bt (st (c2 + b)) d = true) 31 m0 ?_ ?_ ?_
  · intro w hw j
    rw [hm0 w hw]
    exact ⟨fun z => absurd z (bq_n0 j), fun ⟨f, b, c, d, hb, _⟩ => absurd hb (Nat.not_lt_zero _)⟩
  · intro n m' I
    refine br_t (nI_le (Nat.le_refl 31) (by omega)) (hp m' fun w hw j => (I w hw j).trans ?_)
    exact ⟨fun ⟨f, b, c, d, _, hb⟩ => ⟨f, b, c, d, hb⟩, fun ⟨f, b, c, d, hb⟩ => ⟨f, b, c, d, hb.1.1, hb⟩⟩
  · intro n i m' hi I ih
    refine br_f (nI_ge (b := 31) hi (by decide)) (xw_room hi (xw_mc21 h1 h2 hi fun m2 hm2 => ih m2 fun w hw j => (hm2 w hw j).trans ?_))
    rw [I w hw j]
    constructor
    · rintro (⟨f, b, c, d, z1, z2⟩ | ⟨b, c, d, z2⟩)
      · exact ⟨f, b, c, d, by omega, z2⟩
      · exact ⟨i, b, c, d, by omega, z2⟩
    · rintro ⟨f, b, c, d, z1, z2, z3, z4, z5⟩
      by_cases e : f = i
      · subst e; exact Or.inr ⟨b, c, d, z2, z3, z4, z5⟩
      · exact Or.inl ⟨f, b, c, d, by omega, z2, z3, z4, z5⟩
theorem xw_mt14 {post : SX → Prop} {J6 : Int32 → (Nat → Int32) → (Nat → Int32) → (Nat → Int32) → Prop} {c f : Nat} (h1 : c + 31 ≤ 186) (hf : f < 31)
    (hJ : ∀ m' : Nat → Int32, (∀ w, w < 31 → ∀ j, bt (m' w) j = true ↔ bt (m w) j = true ∨ (j = f ∧ bt (st (c + f)) w = true)) → J6 (nI (f + 1)) st iu m') :
    ∃ n, wX_makeTurn_14 post J6 (nI c) (nI f) h s p n 0 st iu m := by
  refine loop_0 (fun n i m' => wX_makeTurn_14 post J6 (nI c) (nI f) h s p n (nI i) st iu m')
    (fun i m' => ∀ w, w < 31 → ∀ j, bt (m' w) j = true ↔ bt (m w) j = true ∨ (w < i ∧ j = f ∧ bt (st (c + f)) w = true)) 31 m ?_ ?_ ?_
  · intro w _ j
    exact ⟨Or.inl, fun h => h.elim id (fun hb => absurd hb.1 (Nat.not_lt_zero _))⟩
  · intro n m' I
    refine br_t (nI_le (Nat.le_refl 31) (by omega)) (nm_r (nI_1 f) (hJ m' fun w hw j => (I w hw j).trans ?_))
    exact ⟨fun h => h.imp id And.right, fun h => h.imp id (fun z => ⟨hw, z⟩)⟩
  · intro n i m' hi I ih
    refine br_f (nI_ge (b := 31) hi (by decide)) ⟨xw_ii (by omega) (by decide), ?_⟩
    rw [xw_ic (by omega)]
    refine xw_hb hi (fun hb => ⟨vp_in_nI hi (by decide), vp_in_nI hi (by decide), nm_e (nm_r (nI_1 i) (ih _ fun w hw j => ?_))⟩) (fun hb => nm_r (nI_1 i) (ih _ fun w hw j => ?_))
    · rw [nI_clamp (by omega)]
      by_cases e : w = i
      · subst e
        rw [pk_us, bq_set _ (by omega) j, I w hw j]
        constructor
        · rintro ((z | z) | z)
          · exact Or.inl z
          · exact absurd z.1 (Nat.lt_irrefl _)
          · exact Or.inr ⟨by omega, z, hb⟩
        · rintro (z | z)
          · exact Or.inl (Or.inl z)
          · exact Or.inr z.2.1
      · rw [pk_un e, I w hw j]
        exact ⟨fun z => z.imp id (fun z => ⟨by omega, z.2⟩), fun z => z.imp id (fun z => ⟨by omega, z.2⟩)⟩
    · rw [I w hw j]
      refine ⟨fun z => z.imp id (fun z => ⟨by omega, z.2⟩), fun z => z.imp id (fun z => ⟨?_, z.2⟩)⟩
      by_cases e : w = i
      · subst e; exact absurd z.2.2 hb
      · omega
theorem xw_makeTurn {post : SX → Prop} {c : Nat} (h1 : c + 31 ≤ 186)
    (hp : ∀ m' : Nat → Int32, (∀ u, u < 31 → ∀ v, bt (m' u) v = true ↔ v < 31 ∧ xw_R st c v u) → post (h, s, p, st, iu, m')) : wpX_makeTurn post (h, s, p, st, iu, m) (nI c) := by
  unfold wpX_makeTurn
  dsimp only
  refine xw_clear fun m0 hm0 => ?_
  refine loop_0 (fun n i m' => wX_makeTurn_6 post (nI c) h s p n (nI i) st iu m')
    (fun i m' => ∀ w, w < 31 → ∀ j, bt (m' w) j = true ↔ j < i ∧ xw_R st c j w) 31 m0 ?_ ?_ ?_
  · intro w hw j
    rw [hm0 w hw]
    exact ⟨fun z => absurd z (bq_n0 j), fun z => absurd z.1 (Nat.not_lt_zero _)⟩
  · intro n m' I
    exact br_t (nI_le (Nat.le_refl 31) (by omega)) (hp m' I)
  · intro n i m' hi I ih
    refine br_f (nI_ge (b := 31) hi (by decide)) (xw_mt14 h1 hi fun m2 hm2 => ih m2 fun w hw j => (hm2 w hw j).trans ?_)
    rw [I w hw j]
    constructor
    · rintro (z | ⟨rfl, z⟩)
      · exact ⟨by omega, z.2⟩
      · exact ⟨by omega, z⟩
    · rintro ⟨z1, z2⟩
      by_cases e : j = i
      · subst e; exact Or.inr ⟨rfl, z2⟩
      · exact Or.inl ⟨by omega, z2⟩
end XS
