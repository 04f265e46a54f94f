/-! cat -/
theorem xw_Rc {a a' : Nat → Int32} {c c' : Nat} (h : ∀ i, i < 31 → a' (c' + i) = a (c + i)) : ∀ u, u < 31 → ∀ v, v < 31 → (xw_R a' c' u v ↔ xw_R a c u v) := by
  intro u hu v _
  unfold xw_R
  rw [h u hu]
theorem rl_catc {R S R' S' : Nat → Nat → Prop} (hR : ∀ u, u < 31 → ∀ v, v < 31 → (R u v ↔ R' u v)) (hS : ∀ u, u < 31 → ∀ v, v < 31 → (S u v ↔ S' u v)) (u v : Nat) : rl_cat R S u v ↔ rl_cat R' S' u v :=
  ⟨rl_cat_mono (fun u hu v hv h => (hR u hu v hv).mp h) (fun u hu v hv h => (hS u hu v hv).mp h), rl_cat_mono (fun u hu v hv h => (hR u hu v hv).mpr h) (fun u hu v hv h => (hS u hu v hv).mpr h)⟩
theorem xw_cat {post : Int32 → SX → Prop} {d s : Nat} {p : Int32} {st iu m : Nat → Int32} (hd : d + 2 ≤ 6) (hs : s < 18)
    (H : ∀ st' m' : Nat → Int32, (∀ i, i < 31 → ∀ v, bt (st' (31 * d + i)) v = true ↔ rl_cat (xw_R st (31 * d)) (xw_R st (31 * (d + 1))) i v) → (∀ i, i < 31 * d ∨ 31 * d + 31 ≤ i → st' i = st i) → post (nI (d + 1)) (nI (d + 1), nI (s + 1), p, st', iu, m')) :
    wpX_cat post (nI (d + 2), nI s, p, st, iu, m) := by
  unfold wpX_cat
  dsimp only
  refine br_t (nI_lt (b := 18) hs (by decide)) (br_t (nI_le (a := 2) (by omega) (by omega)) ?_)
  refine xw_top ?_
  rw [show nI (31 * (d + 1)) - 31 = nI (31 * d) from (pk_sub (b := 31) (by omega)).trans (congrArg nI (by omega))]
  refine xw_makeCat (by omega) (by omega) fun m' hm => ?_
  refine nm_r (nI_pred (d + 1)) ?_
  refine xw_put (by omega) fun st' e1 e2 => ?_
  rw [nI_1 s]
  exact H st' m' (fun i hi v => by rw [e1 i hi]; exact hm i hi v) e2
theorem yw_ct30 {post : Int32 → SY → Prop} {J : Int32 → (Nat → Int32) → Prop} {d u : Nat} {s p : Int32} {a : Nat → Int32} (hd : d + 2 ≤ 6) (hu : u < 31)
    (H : ∀ row : Int32, (∀ v, bt row v = true ↔ rl_cat (xw_R a (31 * d)) (xw_R a (31 * (d + 1))) u v) → J (nI (u + 1)) (upd a (217 + u) row)) :
    ∃ n, wY_cat_30 post J (nI u) (nI (d + 2)) s p a n 0 0 := by
  have e2 : nI (d + 2) - 2 = nI d := pk_sub (a := d + 2) (b := 2) (by omega)
  have e1 : nI (d + 2) - 1 = nI (d + 1) := nI_pred (d + 1)
  refine loop_0 (fun n i row => wY_cat_30 post J (nI u) (nI (d + 2)) s p a n row (nI i)) (fun i row => ∀ v, bt row v = true ↔ v < i ∧ rl_cat (xw_R a (31 * d)) (xw_R a (31 * (d + 1))) u v) 31 0 (fun v => ⟨fun z => absurd z (bq_n0 v), fun z => absurd z.1 (Nat.not_lt_zero _)⟩) ?_ ?_
  · intro n row I
    refine br_t (nI_le (Nat.le_refl 31) (by omega)) ⟨xw_ii (a := 217) (by omega) (by decide), nm_e (nm_r (nI_1 u) ?_)⟩
    rw [show ((217 : Int32) + nI u).toNatClampNeg = 217 + u from xw_ic (a := 217) (by omega)]
    exact H row fun v => (I v).trans ⟨And.right, fun z => ⟨(rl_cat_lt z).2, z⟩⟩
  · intro n i row hi I ih
    refine br_f (nI_ge (b := 31) hi (by decide)) ?_
    rw [e1, e2]
    refine yw_cuts (by omega) (by omega) hu hi (fun hc => br_f xw_10 (nm_e (nm_r (nI_1 i) (ih _ fun v => ?_)))) (fun hc => br_t rfl (nm_r (nI_1 i) (ih _ fun v => ?_)))
    · rw [yw_C_cat (by omega) hu hi] at hc
      rw [bq_set _ (by omega), I v]
      constructor
      · rintro (z | rfl)
        · exact ⟨by omega, z.2⟩
        · exact ⟨by omega, hc⟩
      · rintro ⟨z1, z2⟩
        by_cases e : v = i
        · exact Or.inr e
        · exact Or.inl ⟨by omega, z2⟩
    · rw [yw_C_cat (by omega) hu hi] at hc
      rw [I v]
      refine ⟨fun z => ⟨by omega, z.2⟩, fun z => ⟨?_, z.2⟩⟩
      by_cases e : v = i
      · subst e; exact absurd z.2 hc
      · omega
theorem yw_cat {post : Int32 → SY → Prop} {d s : Nat} {p : Int32} {a : Nat → Int32} (hd : d + 2 ≤ 6) (hs : s < 18)
    (H : ∀ a' : Nat → Int32, (∀ i, i < 31 → ∀ v, bt (a' (31 * d + i)) v = true ↔ rl_cat (xw_R a (31 * d)) (xw_R a (31 * (d + 1))) i v) → (∀ i, i < 31 * d ∨ (31 * d + 31 ≤ i ∧ i < 217) → a' i = a i) → post (nI (d + 1)) (nI (d + 1), nI (s + 1), p, a')) :
    wpY_cat post (nI (d + 2), nI s, p, a) := by
  unfold wpY_cat
  dsimp only
  refine yw_tpOk hd hs ?_
  refine br_t (by decide) ?_
  refine yw_clear (r := 7) (by decide) fun a0 _ z2 => ?_
  refine loop_0 (fun n i a' => wY_cat_19 post (nI (d + 2)) (nI s) p n (nI i) a') (fun i a' => (∀ k, k < i → ∀ v, bt (a' (217 + k)) v = true ↔ rl_cat (xw_R a (31 * d)) (xw_R a (31 * (d + 1))) k v) ∧ (∀ k, k < 217 → a' k = a k)) 31 a0 ⟨(fun k hk => absurd hk (Nat.not_lt_zero _)), fun k hk => z2 k (Or.inl hk)⟩ ?_ ?_
  · intro n a' I
    refine br_t (nI_le (Nat.le_refl 31) (by omega)) (nm_r (nI_1 s) (nm_r (nI_pred (d + 1)) ?_))
    rw [nI_pred]
    refine yw_copy (r := 7) (r' := d) (by decide) (by omega) (by omega) fun b e1 e2 => ?_
    refine H b (fun i hi v => ?_) (fun i hi => ?_)
    · rw [e1 i hi]; exact I.1 i hi v
    · rw [e2 i (by omega)]; exact I.2 i (by omega)
  · intro n i a' hi I ih
    refine br_f (nI_ge (b := 31) hi (by decide)) (yw_ct30 hd hi fun row hr => ih _ ⟨fun k hk v => ?_, fun k hk => ?_⟩)
    · by_cases e : k = i
      · subst e
        rw [pk_us, hr v]
        exact rl_catc (xw_Rc fun j hj => I.2 _ (by omega)) (xw_Rc fun j hj => I.2 _ (by omega)) k v
      · rw [pk_un (by omega)]; exact I.1 k (by omega) v
    · rw [pk_un (by omega)]; exact I.2 k hk
theorem i_vc_cat {k : Nat} {u : SX} {v : SY} (I : i_Rel k u v) (hk : k + 5 ≤ 2560) : wpX_cat (fun r u' => wpY_cat (fun r' v' => r' = r ∧ i_Rel (k + 5) u' v') v) u := by
  have J := I
  obtain ⟨h, s, p, st, iu, m, a, h1, h2, h3, rfl, rfl, hs, hu⟩ := I
  by_cases b1 : s = 18
  · subst b1
    exact br_f (by decide) (yw_catFull ⟨rfl, J⟩)
  by_cases b2 : h < 2
  · exact br_t (nI_lt (b := 18) (by omega) (by decide)) (br_f (nI_ge (b := 2) b2 (by decide)) (yw_catFew b2 (by omega) ⟨rfl, J⟩))
  obtain ⟨d, rfl⟩ : ∃ d, h = d + 2 := ⟨h - 2, by omega⟩
  refine xw_cat h1 (by omega) fun st' m' e1 e2 => ?_
  refine yw_cat h1 (by omega) fun a' f1 f2 => ⟨rfl, ?_⟩
  refine iv_two (P := fun _ _ => True) (a := a) (st := st) (m := m) (by omega) (by omega) h3 (fun i hi => hs i (by omega)) hu (fun i hi => ?_) e2 f2
  exact bq_ext (e1 i hi) (fun v => (f1 i hi v).trans (rl_catc (xw_Rc fun j hj => hs _ (by omega)) (xw_Rc fun j hj => hs _ (by omega)) i v))
/-! turn -/
theorem xw_turn {post : Int32 → SX → Prop} {d s : Nat} {p : Int32} {st iu m : Nat → Int32} (hd : d + 1 ≤ 6) (hs : s < 18)
    (H : ∀ st' m' : Nat → Int32, (∀ i, i < 31 → ∀ v, bt (st' (31 * d + i)) v = true ↔ v < 31 ∧ xw_R st (31 * d) v i) → (∀ i, i < 31 * d ∨ 31 * d + 31 ≤ i → st' i = st i) → post (nI (d + 1)) (nI (d + 1), nI (s + 1), p, st', iu, m')) :
    wpX_turn post (nI (d + 1), nI s, p, st, iu, m) := by
  unfold wpX_turn
  dsimp only
  refine br_t (nI_lt (b := 18) hs (by decide)) (br_t (nI_le (a := 1) (by omega) (by omega)) ?_)
  refine xw_top ?_
  refine xw_makeTurn (by omega) fun m' hm => ?_
  refine xw_put (by omega) fun st' e1 e2 => ?_
  rw [nI_1 s]
  exact H st' m' (fun i hi v => by rw [e1 i hi]; exact hm i hi v) e2
theorem yw_tn27 {post : Int32 → SY → Prop} {J : Int32 → Int32 → Int32 → Int32 → (Nat → Int32) → Prop} {d u : Nat} {s p : Int32} {a : Nat → Int32} (hd : d + 1 ≤ 6) (hu : u < 31)
    (H : ∀ a' : Nat → Int32, (∀ v, bt (a' (217 + u)) v = true ↔ bt (a (217 + u)) v = true ∨ (v < 31 ∧ xw_R a (31 * d) v u)) → (∀ k, k ≠ 217 + u → a' k = a k) → J (nI (u + 1)) (nI (d + 1)) s p a') :
    ∃ n, wY_turn_27 post J (nI u) n 0 (nI (d + 1)) s p a := by
  refine loop_0 (fun n i a' => wY_turn_27 post J (nI u) n (nI i) (nI (d + 1)) s p a') (fun i a' => (∀ v, bt (a' (217 + u)) v = true ↔ bt (a (217 + u)) v = true ∨ (v < i ∧ xw_R a (31 * d) v u)) ∧ (∀ k, k ≠ 217 + u → a' k = a k)) 31 a ⟨fun v => ⟨Or.inl, fun z => z.elim id fun z => absurd z.1 (Nat.not_lt_zero _)⟩, fun _ _ => rfl⟩ ?_ ?_
  · intro n a' I
    exact br_t (nI_le (Nat.le_refl 31) (by omega)) (nm_r (nI_1 u) (H a' I.1 I.2))
  · intro n i a' hi I ih
    have e0 : xw_R a (31 * d) i u ↔ bt (a' (31 * d + i)) u = true := by unfold xw_R; rw [I.2 _ (by omega)]
    refine br_f (nI_ge (b := 31) hi (by decide)) ?_
    rw [nI_pred]
    refine yw_hb (by omega) hu (fun hb => ?_) (fun hb => nm_r (nI_1 i) (ih _ ⟨fun v => ?_, I.2⟩))
    · refine yw_put (r := 7) (by omega) (nm_r (nI_1 i) (ih _ ⟨fun v => ?_, fun k hk => ?_⟩))
      · rw [show 31 * 7 + u = 217 + u from rfl, pk_us, bq_set _ (by omega), I.1 v]
        constructor
        · rintro ((z | z) | rfl)
          · exact Or.inl z
          · exact Or.inr ⟨by omega, z.2⟩
          · exact Or.inr ⟨by omega, e0.mpr hb⟩
        · rintro (z | ⟨z1, z2⟩)
          · exact Or.inl (Or.inl z)
          · by_cases e : v = i
            · exact Or.inr e
            · exact Or.inl (Or.inr ⟨by omega, z2⟩)
      · rw [pk_un (by omega)]; exact I.2 k hk
    · rw [I.1 v]
      refine ⟨fun z => z.imp id fun z => ⟨by omega, z.2⟩, fun z => z.imp id fun z => ⟨?_, z.2⟩⟩
      by_cases e : v = i
      · subst e; exact absurd (e0.mp z.2) hb
      · omega
theorem yw_turn {post : Int32 → SY → Prop} {d s : Nat} {p : Int32} {a : Nat → Int32} (hd : d + 1 ≤ 6) (hs : s < 18)
    (H : ∀ a' : Nat → Int32, (∀ i, i < 31 → ∀ v, bt (a' (31 * d + i)) v = true ↔ v < 31 ∧ xw_R a (31 * d) v i) → (∀ i, i < 31 * d ∨ (31 * d + 31 ≤ i ∧ i < 217) → a' i = a i) → post (nI (d + 1)) (nI (d + 1), nI (s + 1), p, a')) :
    wpY_turn post (nI (d + 1), nI s, p, a) := by
  unfold wpY_turn
  dsimp only
  refine yw_toOk hd hs ?_
  refine br_t (by decide) ?_
  refine yw_clear (r := 7) (by decide) fun a0 z1 z2 => ?_
  refine loop_0 (fun n i a' => wY_turn_19 post n (nI i) (nI (d + 1)) (nI s) p a') (fun i a' => (∀ k, k < i → ∀ v, bt (a' (217 + k)) v = true ↔ v < 31 ∧ xw_R a (31 * d) v k) ∧ (∀ k, k < 217 → a' k = a k) ∧ (∀ k, i ≤ k → k < 31 → a' (217 + k) = 0)) 31 a0 ⟨(fun k hk => absurd hk (Nat.not_lt_zero _)), fun k hk => z2 k (Or.inl hk), fun k _ hk => z1 k hk⟩ ?_ ?_
  · intro n a' I
    refine br_t (nI_le (Nat.le_refl 31) (by omega)) ?_
    rw [nI_pred]
    refine yw_copy (r := 7) (r' := d) (by decide) (by omega) (by omega) fun b e1 e2 => ?_
    refine nm_r (nI_1 s) (H b (fun i hi v => ?_) (fun i hi => ?_))
    · rw [e1 i hi]; exact I.1 i hi v
    · rw [e2 i (by omega)]; exact I.2.1 i (by omega)
  · intro n i a' hi I ih
    refine br_f (nI_ge (b := 31) hi (by decide)) (yw_tn27 hd hi fun b f1 f2 => ih _ ⟨fun k hk v => ?_, fun k hk => ?_, fun k hk hk' => ?_⟩)
    · by_cases e : k = i
      · subst e
        rw [f1 v, I.2.2 k (Nat.le_refl _) hi]
        constructor
        · rintro (z | z)
          · exact absurd z (bq_n0 v)
          · exact ⟨z.1, (xw_Rc (fun j hj => I.2.1 _ (by omega)) v z.1 k hi).mp z.2⟩
        · intro z
          exact Or.inr ⟨z.1, (xw_Rc (fun j hj => I.2.1 _ (by omega)) v z.1 k hi).mpr z.2⟩
      · rw [f2 _ (by omega)]; exact I.1 k (by omega) v
    · rw [f2 _ (by omega)]; exact I.2.1 k hk
    · rw [f2 _ (by omega)]; exact I.2.2 k (by omega) hk'
theorem i_vc_turn {k : Nat} {u : SX} {v : SY} (I : i_Rel k u v) (hk : k + 5 ≤ 2560) : wpX_turn (fun r u' => wpY_turn (fun r' v' => r' = r ∧ i_Rel (k + 5) u' v') v) u := by
  have J := I
  obtain ⟨h, s, p, st, iu, m, a, h1, h2, h3, rfl, rfl, hs, hu⟩ := I
  by_cases b1 : s = 18
  · subst b1
    exact br_f (by decide) (yw_turnFull ⟨rfl, J⟩)
  by_cases b2 : h = 0
  · subst b2
    exact br_t (nI_lt (b := 18) (by omega) (by decide)) (br_f (by decide) (yw_turnFew (by omega) ⟨rfl, J⟩))
  obtain ⟨d, rfl⟩ : ∃ d, h = d + 1 := ⟨h - 1, by omega⟩
  refine xw_turn h1 (by omega) fun st' m' e1 e2 => ?_
  refine yw_turn h1 (by omega) fun a' f1 f2 => ⟨rfl, ?_⟩
  refine iv_two (P := fun _ _ => True) (a := a) (st := st) (m := m) (by omega) (by omega) h3 (fun i hi => hs i (by omega)) hu (fun i hi => ?_) e2 f2
  refine bq_ext (e1 i hi) (fun v => (f1 i hi v).trans ?_)
  exact ⟨fun z => ⟨z.1, (xw_Rc (fun j hj => hs _ (by omega)) v z.1 i hi).mp z.2⟩, fun z => ⟨z.1, (xw_Rc (fun j hj => hs _ (by omega)) v z.1 i hi).mpr z.2⟩⟩
