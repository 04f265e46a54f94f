/-- both keep the same counts, the same rows on the stack and the same relation in use -/
def i_Rel (_ : Nat) (u : SX) (v : SY) : Prop := ∃ (h s p : Nat) (st iu m a : Nat → Int32), h ≤ 6 ∧ s ≤ 18 ∧ p ≤ 9 ∧ u = (nI h, nI s, nI p, st, iu, m) ∧ v = (nI h, nI s, nI p, a) ∧ (∀ i, i < 31 * h → a i = st i) ∧ (∀ i, i < 31 → a (186 + i) = iu i)
theorem i_up {k : Nat} {u : SX} {v : SY} (h : i_Rel k u v) : i_Rel (k + 5) u v := h
theorem i_vc0 : wpX_init (fun u => wpY_init (fun v => i_Rel 0 u v)) :=
  ⟨0, 0, 0, fun _ => 0, fun _ => 0, fun _ => 0, fun _ => 0, by decide, by decide, by decide, rfl, rfl, fun _ _ => rfl, fun _ _ => rfl⟩
theorem i_vc_steps {k : Nat} {u : SX} {v : SY} (I : i_Rel k u v) (hk : k + 5 ≤ 2560) : wpX_steps (fun r => wpY_steps (fun r' => r' = r ∧ i_Rel (k + 5) u v) v) u := by
  have J := I
  obtain ⟨h, s, p, st, iu, m, a, h1, h2, h3, rfl, rfl, hs, hu⟩ := I
  exact ⟨rfl, J⟩
theorem i_vc_depth {k : Nat} {u : SX} {v : SY} (I : i_Rel k u v) (hk : k + 5 ≤ 2560) : wpX_depth (fun r => wpY_depth (fun r' => r' = r ∧ i_Rel (k + 5) u v) v) u := by
  have J := I
  obtain ⟨h, s, p, st, iu, m, a, h1, h2, h3, rfl, rfl, hs, hu⟩ := I
  exact ⟨rfl, J⟩
theorem i_vc_discard {k : Nat} {u : SX} {v : SY} (I : i_Rel k u v) (hk : k + 5 ≤ 2560) : wpX_discard (fun u' => wpY_discard (fun v' => i_Rel (k + 5) u' v') v) u := by
  obtain ⟨h, s, p, st, iu, m, a, h1, h2, h3, rfl, rfl, hs, hu⟩ := I
  exact ⟨0, 0, 0, st, iu, m, a, by decide, by decide, by decide, rfl, rfl, fun i hi => absurd hi (by omega), hu⟩
/-! define -/
theorem i_vc_define {k : Nat} {u : SX} {v : SY} (I : i_Rel k u v) (hk : k + 5 ≤ 2560) : wpX_define (fun r u' => wpY_define (fun r' v' => r' = r ∧ i_Rel (k + 5) u' v') v) u := by
  have J := I
  obtain ⟨h, s, p, st, iu, m, a, h1, h2, h3, rfl, rfl, hs, hu⟩ := I
  unfold wpX_define
  dsimp only
  refine pk_le 1 h (fun hh => ?_) (fun hh => ?_)
  · obtain ⟨d, rfl⟩ : ∃ d, h = d + 1 := ⟨h - 1, by omega⟩
    refine xw_top ?_
    refine loop_0 (fun n i iu' => wX_define_18 (fun r u' => wpY_define (fun r' v' => r' = r ∧ i_Rel (k + 5) u' v') (nI (d + 1), nI s, nI p, a)) (nI (31 * d)) (nI (d + 1)) (nI s) (nI p) n (nI i) st iu' m) (fun i iu' => ∀ k, k < i → iu' k = st (31 * d + k)) 31 iu (fun k hk => absurd hk (Nat.not_lt_zero _)) ?_ ?_
    · intro n iu' I
      refine br_t (nI_le (Nat.le_refl 31) (by omega)) ?_
      unfold wpX_emptyStack wpY_define
      dsimp only
      refine br_f (nI_ne0 (by omega) (by omega)) ?_
      rw [nI_pred]
      refine yw_copy (r := d) (r' := 6) (by omega) (by decide) (by omega) fun a' e1 e2 => ?_
      exact ⟨rfl, 0, 0, 0, st, iu', m, a', by decide, by decide, by decide, rfl, rfl, fun i hi => absurd hi (by omega), fun i hi => (e1 i hi).trans ((hs _ (by omega)).trans (I i hi).symm)⟩
    · intro n i iu' hi I ih
      refine br_f (nI_ge (b := 31) hi (by decide)) ⟨xw_ii (by omega) (by decide), vp_in_nI hi (by decide), nm_e (nm_r (nI_1 i) (ih _ fun k hk => ?_))⟩
      rw [xw_ic (by omega), nI_clamp (by omega)]
      by_cases e : k = i
      · subst e; exact pk_us
      · rw [pk_un e]; exact I k (by omega)
  · obtain rfl : h = 0 := by omega
    exact br_t rfl ⟨rfl, J⟩
/-! pair -/
def wn_lw (x : Nat) : Nat := if x = 2 then 0 else x + 1
theorem xw_lt1 : ∀ x, x < 3 → ¬ x = 2 → (((1 : Int32) <<< ((1 : Int32) &&& 31)) - 1) + nI x = nI (wn_lw x) := by decide +kernel
theorem yw_lt1 : ∀ x, x < 3 → ¬ x = 2 → (1 : Int32) + nI x = nI (wn_lw x) := by decide +kernel
theorem wn_lwlt : ∀ x, x < 3 → wn_lw x < 3 := by decide +kernel
theorem xw_letter {post : Int32 → Prop} {x : Nat} (hx : x < 3) (h : post (nI (wn_lw x))) : wpX_letterWord post (nI x) := by
  refine pk_eq x 2 (fun e => ?_) (fun e => ?_)
  · subst e; exact h
  · unfold wpX_wordNumber
    rw [xw_lt1 x hx e]; exact h
theorem xw_pair {post : Int32 → SX → Prop} {x y h s p : Nat} {st iu m : Nat → Int32} (hx : x < 3) (hy : y < 3) (hh : h < 6) (hs : s < 18) (hp : p < 9)
    (H : ∀ st' m' : Nat → Int32, (∀ i, i < 31 → st' (31 * h + i) = if i = wn_lw x then (1 : Int32) <<< (nI (wn_lw y) &&& 31) else 0) → (∀ i, i < 31 * h ∨ 31 * h + 31 ≤ i → st' i = st i) → post (nI (h + 1)) (nI (h + 1), nI (s + 1), nI (p + 1), st', iu, m')) :
    wpX_pair post (nI h, nI s, nI p, st, iu, m) (nI x) (nI y) := by
  have lx := wn_lwlt x hx
  unfold wpX_pair
  dsimp only
  refine br_f (nI_pos (by omega)) (br_f (nI_nlt (a := 2) (by omega) (by omega)) (br_f (nI_pos (by omega)) (br_t (nI_le (b := 2) (by omega) (by decide)) (br_f (nI_ge (b := 18) hs (by decide)) (br_f (nI_ge (b := 6) hh (by decide)) (br_t (nI_lt (b := 9) hp (by decide)) ?_))))))
  refine xw_letter hx ?_
  refine xw_letter hy ?_
  refine xw_clear fun m0 hm0 => ?_
  refine ⟨vp_in_nI (by omega) (by decide), nm_e (nm_r (nI_1 h) (nm_r (nI_1 p) ?_))⟩
  refine xw_put hh fun st' e1 e2 => ?_
  rw [nI_1 s]
  refine H st' _ (fun i hi => ?_) e2
  rw [e1 i hi, nI_clamp (by omega)]
  show (if i = wn_lw x then _ else m0 i) = _
  rw [hm0 i hi]
theorem yw_pair {post : Int32 → SY → Prop} {x y h s p : Nat} {a : Nat → Int32} (hx : x < 3) (hy : y < 3) (hh : h < 6) (hs : s < 18) (hp : p < 9)
    (H : ∀ a' : Nat → Int32, (∀ i, i < 31 → a' (31 * h + i) = if i = wn_lw x then (1 : Int32) <<< (nI (wn_lw y) &&& 31) else 0) → (∀ i, i < 31 * h ∨ 31 * h + 31 ≤ i → a' i = a i) → post (nI (h + 1)) (nI (h + 1), nI (s + 1), nI (p + 1), a')) :
    wpY_pair post (nI h, nI s, nI p, a) (nI x) (nI y) := by
  have lx := wn_lwlt x hx
  have ly := wn_lwlt y hy
  unfold wpY_pair
  dsimp only
  refine br_f (nI_pos (by omega)) (br_f (nI_nlt (a := 2) (by omega) (by omega)) (br_f (nI_pos (by omega)) (br_t (nI_le (b := 2) (by omega) (by decide)) (pk_eq s 18 (fun z => by omega) (fun _ => pk_eq h 6 (fun z => by omega) (fun _ => pk_eq p 9 (fun z => by omega) (fun _ => ?_)))))))
  refine yw_clear (by omega) fun a0 z1 z2 => ?_
  have K : wY_pair_87 post (nI (wn_lw y)) (nI (wn_lw x)) (nI h) (nI h) (nI s) (nI p) a0 := by
    refine yw_put (by omega) ?_
    refine nm_r (nI_1 s) (nm_r (nI_1 p) (nm_r (nI_1 h) (H _ (fun i hi => ?_) (fun i hi => ?_))))
    · by_cases e : i = wn_lw x
      · subst e
        rw [pk_us, if_pos rfl, z1 _ hi]
        exact Int32.zero_or
      · rw [pk_un (by omega), if_neg e, z1 i hi]
    · rw [pk_un (by omega), z2 i hi]
  have K2 : wY_pair_75 post (nI y) (nI (wn_lw x)) (nI h) (nI h) (nI s) (nI p) a0 := by
    refine pk_eq y 2 (fun e => ?_) (fun e => ?_)
    · subst e; exact K
    · rw [yw_lt1 y hy e]; exact K
  refine pk_eq x 2 (fun e => ?_) (fun e => ?_)
  · subst e; exact K2
  · rw [yw_lt1 x hx e]; exact K2
theorem i_vc_pair {k : Nat} {u : SX} {v : SY} (I : i_Rel k u v) (hk : k + 5 ≤ 2560) (v1 : Int32) (v2 : Int32) : wpX_pair (fun r u' => wpY_pair (fun r' v' => r' = r ∧ i_Rel (k + 5) u' v') v v1 v2) u v1 v2 := by
  have J := I
  obtain ⟨h, s, p, st, iu, m, a, h1, h2, h3, rfl, rfl, hs, hu⟩ := I
  by_cases a1 : v1 < 0
  · exact br_t a1 (br_t a1 ⟨rfl, J⟩)
  by_cases a2 : 2 < v1
  · exact br_f a1 (br_t a2 (br_f a1 (br_t a2 ⟨rfl, J⟩)))
  by_cases a3 : v2 < 0
  · exact br_f a1 (br_f a2 (br_t a3 (br_f a1 (br_f a2 (br_t a3 ⟨rfl, J⟩)))))
  by_cases a4 : v2 ≤ 2
  rotate_left
  · exact br_f a1 (br_f a2 (br_f a3 (br_f a4 (br_f a1 (br_f a2 (br_f a3 (br_f a4 ⟨rfl, J⟩)))))))
  by_cases b1 : s = 18
  · subst b1
    exact br_f a1 (br_f a2 (br_f a3 (br_t a4 (br_t (by decide) (br_f a1 (br_f a2 (br_f a3 (br_t a4 (br_t rfl ⟨rfl, J⟩)))))))))
  have c1 : ¬ (18 : Int32) ≤ nI s := nI_ge (b := 18) (by omega) (by decide)
  have d1 : ¬ nI s = 18 := fun z => b1 ((nI_eq (b := 18) (by omega) (by decide)).mp z)
  by_cases b2 : h = 6
  · subst b2
    exact br_f a1 (br_f a2 (br_f a3 (br_t a4 (br_f c1 (br_t (by decide) (br_f a1 (br_f a2 (br_f a3 (br_t a4 (br_f d1 (br_t rfl ⟨rfl, J⟩)))))))))))
  have c2 : ¬ (6 : Int32) ≤ nI h := nI_ge (b := 6) (by omega) (by decide)
  have d2 : ¬ nI h = 6 := fun z => b2 ((nI_eq (b := 6) (by omega) (by decide)).mp z)
  by_cases b3 : p = 9
  · subst b3
    exact br_f a1 (br_f a2 (br_f a3 (br_t a4 (br_f c1 (br_f c2 (br_f (by decide) (br_f a1 (br_f a2 (br_f a3 (br_t a4 (br_f d1 (br_f d2 (br_t rfl ⟨rfl, J⟩)))))))))))))
  obtain ⟨x, hx, rfl⟩ := nI_of2 (M := 2) (n := 2) (by decide) a1 (Int32.not_lt.mp a2)
  obtain ⟨y, hy, rfl⟩ := nI_of2 (M := 2) (n := 2) (by decide) a3 a4
  refine xw_pair (by omega) (by omega) (by omega) (by omega) (by omega) fun st' m' e1 e2 => ?_
  refine yw_pair (by omega) (by omega) (by omega) (by omega) (by omega) fun a' f1 f2 => ?_
  refine ⟨rfl, h + 1, s + 1, p + 1, st', iu, m', a', by omega, by omega, by omega, rfl, rfl, fun i hi => ?_, fun i hi => ?_⟩
  · by_cases z : i < 31 * h
    · rw [e2 i (Or.inl z), f2 i (Or.inl z)]; exact hs i z
    · obtain ⟨j, rfl⟩ : ∃ j, i = 31 * h + j := ⟨i - 31 * h, by omega⟩
      rw [e1 j (by omega), f1 j (by omega)]
  · rw [f2 _ (Or.inr (by omega))]; exact hu i hi
/-! alt -/
theorem xw_alt {post : Int32 → SX → Prop} {d s : Nat} {p : Int32} {st iu m : Nat → Int32} (hd : d + 2 ≤ 6) (hs : s < 18)
    (H : ∀ st' m' : Nat → Int32, (∀ i, i < 31 → st' (31 * d + i) = st (31 * d + i) ||| st (31 * (d + 1) + i)) → (∀ i, i < 31 * d ∨ 31 * d + 31 ≤ i → st' i = st i) → post (nI (d + 1)) (nI (d + 1), nI (s + 1), p, st', iu, m')) :
    wpX_alt post (nI (d + 2), nI s, p, st, iu, m) := by
  unfold wpX_alt
  dsimp only
  refine br_t (nI_lt (b := 18) hs (by decide)) (br_t (nI_le (a := 2) (by omega) (by omega)) ?_)
  refine xw_top ?_
  refine nm_r (show nI (31 * (d + 1)) - nI 31 = nI (31 * d) by rw [pk_sub (by omega)]; congr 1) ?_
  refine loop_0 (fun n i m' => wX_alt_35 post (nI (31 * (d + 1))) (nI (31 * d)) (nI (d + 2)) (nI s) p n (nI i) st iu m') (fun i m' => ∀ k, k < i → m' k = st (31 * d + k) ||| st (31 * (d + 1) + k)) 31 m (fun k hk => absurd hk (Nat.not_lt_zero _)) ?_ ?_
  · intro n m' I
    refine br_t (nI_le (Nat.le_refl 31) (by omega)) (nm_r (nI_pred (d + 1)) ?_)
    refine xw_put (by omega) fun st' e1 e2 => ?_
    rw [nI_1 s]
    exact H st' m' (fun i hi => (e1 i hi).trans (I i hi)) e2
  · intro n i m' hi I ih
    refine br_f (nI_ge (b := 31) hi (by decide)) ⟨xw_ii (by omega) (by decide), xw_ii (by omega) (by decide), vp_in_nI hi (by decide), nm_e (nm_r (nI_1 i) (ih _ fun k hk => ?_))⟩
    rw [xw_ic (by omega), xw_ic (by omega), nI_clamp (by omega)]
    by_cases e : k = i
    · subst e; exact pk_us
    · rw [pk_un e]; exact I k (by omega)
theorem yw_tpOk {d s : Nat} {p : Int32} {a : Nat → Int32} {f : Int32 → Prop} (hd : d + 2 ≤ 6) (hs : s < 18) (h : f 0) : wpY_testPair f (nI (d + 2), nI s, p, a) :=
  pk_eq s 18 (fun z => by omega) (fun _ => br_t (nI_le (a := 2) (by omega) (by omega)) h)
theorem yw_tpFull {d p : Int32} {a : Nat → Int32} {f : Int32 → Prop} (h : f (-2)) : wpY_testPair f (d, nI 18, p, a) := br_t rfl h
theorem yw_tpFew {d s : Nat} {p : Int32} {a : Nat → Int32} {f : Int32 → Prop} (hd : d < 2) (hs : s < 18) (h : f (-3)) : wpY_testPair f (nI d, nI s, p, a) :=
  pk_eq s 18 (fun z => by omega) (fun _ => br_f (nI_ge (b := 2) hd (by decide)) h)
theorem yw_toOk {d s : Nat} {p : Int32} {a : Nat → Int32} {f : Int32 → Prop} (hd : d + 1 ≤ 6) (hs : s < 18) (h : f 0) : wpY_testOne f (nI (d + 1), nI s, p, a) :=
  pk_eq s 18 (fun z => by omega) (fun _ => br_f (nI_ne0 (by omega) (by omega)) h)
theorem yw_toFull {d p : Int32} {a : Nat → Int32} {f : Int32 → Prop} (h : f (-2)) : wpY_testOne f (d, nI 18, p, a) := br_t rfl h
theorem yw_toFew {s : Nat} {p : Int32} {a : Nat → Int32} {f : Int32 → Prop} (hs : s < 18) (h : f (-3)) : wpY_testOne f (nI 0, nI s, p, a) :=
  pk_eq s 18 (fun z => by omega) (fun _ => br_t rfl h)
theorem yw_alt {post : Int32 → SY → Prop} {d s : Nat} {p : Int32} {a : Nat → Int32} (hd : d + 2 ≤ 6) (hs : s < 18)
    (H : ∀ a' : Nat → Int32, (∀ i, i < 31 → a' (31 * d + i) = a (31 * d + i) ||| a (31 * (d + 1) + i)) → (∀ i, i < 31 * d ∨ 31 * d + 31 ≤ i → a' i = a i) → post (nI (d + 1)) (nI (d + 1), nI (s + 1), p, a')) :
    wpY_alt post (nI (d + 2), nI s, p, a) := by
  unfold wpY_alt
  dsimp only
  refine yw_tpOk hd hs ?_
  refine br_t (by decide) (nm_r (nI_1 s) (nm_r (nI_pred (d + 1)) ?_))
  refine loop_0 (fun n i a' => wY_alt_33 post (nI (d + 1)) (nI (s + 1)) p n (nI i) a') (fun i a' => (∀ k, k < i → a' (31 * d + k) = a (31 * d + k) ||| a (31 * (d + 1) + k)) ∧ (∀ k, k < 31 * d + i → i ≤ k - 31 * d → a' k = a k) ∧ (∀ k, k < 31 * d ∨ 31 * d + i ≤ k → a' k = a k)) 31 a ⟨(fun k hk => absurd hk (Nat.not_lt_zero _)), fun _ _ _ => rfl, fun _ _ => rfl⟩ ?_ ?_
  · intro n a' I
    exact br_t (nI_le (Nat.le_refl 31) (by omega)) (H a' I.1 I.2.2)
  · intro n i a' hi I ih
    refine br_f (nI_ge (b := 31) hi (by decide)) ?_
    rw [nI_pred]
    refine ⟨yw_in (by omega), yw_in (by omega), yw_in (by omega), nm_e (nm_r (nI_1 i) (ih _ ?_))⟩
    rw [yw_ic (by omega), yw_ic (by omega)]
    refine ⟨fun k hk => ?_, fun k hk hk' => ?_, fun k hk => ?_⟩
    · by_cases e : k = i
      · subst e; rw [pk_us, I.2.2 _ (by omega), I.2.2 _ (by omega)]
      · rw [pk_un (by omega)]; exact I.1 k (by omega)
    · rw [pk_un (by omega)]; exact I.2.2 k (by omega)
    · rw [pk_un (by omega)]; exact I.2.2 k (by omega)
theorem iv_two {k : Nat} {d s p : Nat} {st iu m a st' m' a' : Nat → Int32} {P : Nat → Nat → Prop} (hd : d < 6) (hs : s < 18) (hp : p ≤ 9)
    (h1 : ∀ i, i < 31 * d → a i = st i) (hu : ∀ i, i < 31 → a (186 + i) = iu i)
    (e1 : ∀ i, i < 31 → st' (31 * d + i) = a' (31 * d + i)) (e2 : ∀ i, i < 31 * d ∨ 31 * d + 31 ≤ i → st' i = st i)
    (f2 : ∀ i, i < 31 * d ∨ (31 * d + 31 ≤ i ∧ i < 217) → a' i = a i) :
    i_Rel (k + 5) (nI (d + 1), nI (s + 1), nI p, st', iu, m') (nI (d + 1), nI (s + 1), nI p, a') := by
  refine ⟨d + 1, s + 1, p, st', iu, m', a', by omega, by omega, by omega, rfl, rfl, fun i hi => ?_, fun i hi => ?_⟩
  · by_cases z : i < 31 * d
    · rw [e2 i (Or.inl z), f2 i (Or.inl z)]; exact h1 i z
    · obtain ⟨j, rfl⟩ : ∃ j, i = 31 * d + j := ⟨i - 31 * d, by omega⟩
      exact (e1 j (by omega)).symm
  · rw [f2 _ (Or.inr (by omega))]; exact hu i hi
theorem yw_altFull {post : Int32 → SY → Prop} {d p : Int32} {a : Nat → Int32} (h : post (-2) (d, nI 18, p, a)) : wpY_alt post (d, nI 18, p, a) := by
  unfold wpY_alt
  dsimp only
  refine yw_tpFull ?_
  exact br_f (by decide) h
theorem yw_altFew {post : Int32 → SY → Prop} {d s : Nat} {p : Int32} {a : Nat → Int32} (hd : d < 2) (hs : s < 18) (h : post (-3) (nI d, nI s, p, a)) : wpY_alt post (nI d, nI s, p, a) := by
  unfold wpY_alt
  dsimp only
  refine yw_tpFew hd hs ?_
  exact br_f (by decide) h
theorem yw_catFull {post : Int32 → SY → Prop} {d p : Int32} {a : Nat → Int32} (h : post (-2) (d, nI 18, p, a)) : wpY_cat post (d, nI 18, p, a) := by
  unfold wpY_cat
  dsimp only
  refine yw_tpFull ?_
  exact br_f (by decide) h
theorem yw_catFew {post : Int32 → SY → Prop} {d s : Nat} {p : Int32} {a : Nat → Int32} (hd : d < 2) (hs : s < 18) (h : post (-3) (nI d, nI s, p, a)) : wpY_cat post (nI d, nI s, p, a) := by
  unfold wpY_cat
  dsimp only
  refine yw_tpFew hd hs ?_
  exact br_f (by decide) h
theorem yw_starFull {post : Int32 → SY → Prop} {d p : Int32} {a : Nat → Int32} (h : post (-2) (d, nI 18, p, a)) : wpY_star post (d, nI 18, p, a) := by
  unfold wpY_star
  dsimp only
  refine yw_toFull ?_
  exact br_f (by decide) h
theorem yw_starFew {post : Int32 → SY → Prop} {s : Nat} {p : Int32} {a : Nat → Int32} (hs : s < 18) (h : post (-3) (nI 0, nI s, p, a)) : wpY_star post (nI 0, nI s, p, a) := by
  unfold wpY_star
  dsimp only
  refine yw_toFew hs ?_
  exact br_f (by decide) h
theorem yw_turnFull {post : Int32 → SY → Prop} {d p : Int32} {a : Nat → Int32} (h : post (-2) (d, nI 18, p, a)) : wpY_turn post (d, nI 18, p, a) := by
  unfold wpY_turn
  dsimp only
  refine yw_toFull ?_
  exact br_f (by decide) h
theorem yw_turnFew {post : Int32 → SY → Prop} {s : Nat} {p : Int32} {a : Nat → Int32} (hs : s < 18) (h : post (-3) (nI 0, nI s, p, a)) : wpY_turn post (nI 0, nI s, p, a) := by
  unfold wpY_turn
  dsimp only
  refine yw_toFew hs ?_
  exact br_f (by decide) h
theorem i_vc_alt {k : Nat} {u : SX} {v : SY} (I : i_Rel k u v) (hk : k + 5 ≤ 2560) : wpX_alt (fun r u' => wpY_alt (fun r' v' => r' = r ∧ i_Rel (k + 5) u' v') v) u := by
  have J := I
  obtain ⟨h, s, p, st, iu, m, a, h1, h2, h3, rfl, rfl, hs, hu⟩ := I
  by_cases b1 : s = 18
  · subst b1
    exact br_f (by decide) (yw_altFull ⟨rfl, J⟩)
  by_cases b2 : h < 2
  · exact br_t (nI_lt (b := 18) (by omega) (by decide)) (br_f (nI_ge (b := 2) b2 (by decide)) (yw_altFew b2 (by omega) ⟨rfl, J⟩))
  obtain ⟨d, rfl⟩ : ∃ d, h = d + 2 := ⟨h - 2, by omega⟩
  refine xw_alt h1 (by omega) fun st' m' e1 e2 => ?_
  refine yw_alt h1 (by omega) fun a' f1 f2 => ⟨rfl, ?_⟩
  refine iv_two (P := fun _ _ => True) (a := a) (st := st) (m := m) (by omega) (by omega) h3 (fun i hi => hs i (by omega)) hu (fun i hi => ?_) e2 (fun i hi => f2 i (by omega))
  rw [e1 i hi, f1 i hi, hs _ (by omega), hs _ (by omega)]
