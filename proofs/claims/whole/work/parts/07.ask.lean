/-! the questions -/
theorem qv_t : ∀ l, l < 5 → ∀ b, b < 2 ^ l → (((1 : Int32) <<< (nI l &&& 31)) - 1) + nI b = nI (2 ^ l - 1 + b) ∧ 2 ^ l - 1 + b < 31 := by decide +kernel
theorem qv_t2 : ∀ l, l < 5 → (1 : Int32) <<< (nI l &&& 31) = nI (2 ^ l) := by decide +kernel
theorem qv_valid (p0 p1 : Int32) : ∃ r : Int32, (r = 0 ∨ (r = 1 ∧ ∃ w, w < 31 ∧ (((1 : Int32) <<< (p0 &&& 31)) - 1) + p1 = nI w)) ∧ (∀ post : Int32 → Prop, post r → wpX_isValid post p0 p1) ∧ (∀ (post : Int32 → Prop) (d s g : Int32) (a : Nat → Int32), post r → wpY_isWord post (d, s, g, a) p0 p1) := by
  by_cases a1 : p0 < 0
  · exact ⟨0, Or.inl rfl, fun _ h => br_t a1 h, fun _ _ _ _ _ h => br_t a1 h⟩
  by_cases a2 : 4 < p0
  · exact ⟨0, Or.inl rfl, fun _ h => br_f a1 (br_t a2 h), fun _ _ _ _ _ h => br_f a1 (br_t a2 h)⟩
  by_cases a3 : p1 < 0
  · exact ⟨0, Or.inl rfl, fun _ h => br_f a1 (br_f a2 (br_t a3 h)), fun _ _ _ _ _ h => br_f a1 (br_f a2 (br_t a3 h))⟩
  by_cases a4 : ((1 : Int32) <<< (p0 &&& 31)) ≤ p1
  · exact ⟨0, Or.inl rfl, fun _ h => br_f a1 (br_f a2 (br_f a3 (br_t a4 h))), fun _ _ _ _ _ h => br_f a1 (br_f a2 (br_f a3 (br_t a4 h)))⟩
  refine ⟨1, Or.inr ⟨rfl, ?_⟩, fun _ h => br_f a1 (br_f a2 (br_f a3 (br_f a4 h))), fun _ _ _ _ _ h => br_f a1 (br_f a2 (br_f a3 (br_f a4 h)))⟩
  obtain ⟨l, hl, rfl⟩ := nI_of2 (M := 4) (n := 4) (by decide) a1 (Int32.not_lt.mp a2)
  obtain ⟨b, hb, rfl⟩ := nI_of a3
  have hl2 : 2 ^ l < 2 ^ 31 := Nat.pow_lt_pow_right (by decide) (by omega)
  rw [qv_t2 l (by omega), nI_leI hl2 hb] at a4
  have t := qv_t l (by omega) b (by omega)
  exact ⟨_, t.2, t.1⟩
theorem xw_wn {post : Int32 → Prop} {p0 p1 : Int32} {w : Nat} (e : (((1 : Int32) <<< (p0 &&& 31)) - 1) + p1 = nI w) (h : post (nI w)) : wpX_wordNumber post p0 p1 := by
  unfold wpX_wordNumber
  rw [e]
  exact h
def qc_n (P : Nat → Bool) : Nat → Nat
  | 0 => 0
  | n + 1 => if P n = true then qc_n P n + 1 else qc_n P n
theorem qc_nt {P : Nat → Bool} {n : Nat} (h : P n = true) : qc_n P (n + 1) = qc_n P n + 1 := if_pos h
theorem qc_nf {P : Nat → Bool} {n : Nat} (h : ¬ P n = true) : qc_n P (n + 1) = qc_n P n := if_neg h
theorem qc_nle (P : Nat → Bool) : ∀ n, qc_n P n ≤ n := by
  intro n
  induction n with
  | zero => exact Nat.le_refl _
  | succ n ih =>
    by_cases h : P n = true
    · rw [qc_nt h]; omega
    · rw [qc_nf h]; omega
def qc_s (f : Nat → Nat) : Nat → Nat
  | 0 => 0
  | n + 1 => qc_s f n + f n
def qc_a (P : Nat → Bool) : Nat → Bool
  | 0 => false
  | n + 1 => qc_a P n || P n
theorem qc_au {P : Nat → Bool} {n : Nat} (h : qc_a P n = true) : ∀ k, qc_a P (n + k) = true := by
  intro k
  induction k with
  | zero => exact h
  | succ k ih => show (qc_a P (n + k) || P (n + k)) = true; rw [ih, Bool.true_or]
theorem qc_ale {P : Nat → Bool} {n m : Nat} (h : qc_a P n = true) (hm : n ≤ m) : qc_a P m = true := by
  have := qc_au h (m - n)
  rwa [show n + (m - n) = m by omega] at this
theorem xw_size {post : Int32 → Prop} {x : Int32} (h : post (nI (qc_n (bt x) 31))) : wpX_sizeOf post x := by
  refine loop_0 (fun n i s => wX_sizeOf_4 post x n s (nI i)) (fun i s => s = nI (qc_n (bt x) i)) 31 0 rfl ?_ ?_
  · rintro n s rfl
    exact br_t (nI_le (Nat.le_refl 31) (by omega)) h
  · rintro n i s hi rfl ih
    refine br_f (nI_ge (b := 31) hi (by decide)) (xw_hb hi (fun hb => nm_r (nI_1 _) (nm_r (nI_1 i) (ih _ ?_))) (fun hb => nm_r (nI_1 i) (ih _ ?_)))
    · rw [qc_nt hb]
    · rw [qc_nf hb]
section QS
variable {d s g : Int32} {h t p : Int32} {a iu st m : Nat → Int32}
theorem yw_imagesOf {post : Int32 → Prop} {u : Nat} (hu : u < 31) (H : post (nI (qc_n (bt (a (186 + u))) 31))) : wpY_imagesOf post (d, s, g, a) (nI u) := by
  refine loop_0 (fun n i c => wY_imagesOf_4 post (nI u) d s g a n c (nI i)) (fun i c => c = nI (qc_n (bt (a (186 + u))) i)) 31 0 rfl ?_ ?_
  · rintro n c rfl
    exact br_t (nI_le (Nat.le_refl 31) (by omega)) H
  · rintro n i c hi rfl ih
    refine br_f (nI_ge (b := 31) hi (by decide)) (yw_hb (r := 6) (by omega) hi (fun hb => nm_r (nI_1 _) (nm_r (nI_1 i) (ih _ ?_))) (fun hb => nm_r (nI_1 i) (ih _ ?_)))
    · rw [qc_nt hb]
    · rw [qc_nf hb]
theorem xw_pairs {post : Int32 → Prop} (H : post (nI (qc_s (fun u => qc_n (bt (iu u)) 31) 31))) : wpX_pairs post (h, t, p, st, iu, m) := by
  refine loop_0 (fun n i c => wX_pairs_4 post h t p st iu m n c (nI i)) (fun i c => c = nI (qc_s (fun u => qc_n (bt (iu u)) 31) i)) 31 0 rfl ?_ ?_
  · rintro n c rfl
    exact br_t (nI_le (Nat.le_refl 31) (by omega)) H
  · rintro n i c hi rfl ih
    refine br_f (nI_ge (b := 31) hi (by decide)) ⟨vp_in_nI hi (by decide), ?_⟩
    rw [nI_clamp (by omega)]
    exact xw_size (nm_r (nI_add _ _) (nm_r (nI_1 i) (ih _ rfl)))
theorem yw_pairs {post : Int32 → Prop} (hu : ∀ i, i < 31 → a (186 + i) = iu i) (H : post (nI (qc_s (fun u => qc_n (bt (iu u)) 31) 31))) : wpY_pairs post (d, s, g, a) := by
  refine loop_0 (fun n i c => wY_pairs_4 post d s g a n c (nI i)) (fun i c => c = nI (qc_s (fun u => qc_n (bt (iu u)) 31) i)) 31 0 rfl ?_ ?_
  · rintro n c rfl
    exact br_t (nI_le (Nat.le_refl 31) (by omega)) H
  · rintro n i c hi rfl ih
    refine br_f (nI_ge (b := 31) hi (by decide)) (yw_imagesOf hi ?_)
    rw [hu i hi]
    exact nm_r (nI_add _ _) (nm_r (nI_1 i) (ih _ rfl))
theorem xw_left {post : Int32 → Prop} {k : Nat} (hk : k < 31) (H : post (nI (qc_n (fun u => decide (k ≤ qc_n (bt (iu u)) 31)) 31))) : wpX_leftWordsWithAtLeast post (h, t, p, st, iu, m) (nI k) := by
  refine loop_0 (fun n i c => wX_leftWordsWithAtLeast_4 post (nI k) h t p st iu m n c (nI i)) (fun i c => c = nI (qc_n (fun u => decide (k ≤ qc_n (bt (iu u)) 31)) i)) 31 0 rfl ?_ ?_
  · rintro n c rfl
    exact br_t (nI_le (Nat.le_refl 31) (by omega)) H
  · rintro n i c hi rfl ih
    refine br_f (nI_ge (b := 31) hi (by decide)) ⟨vp_in_nI hi (by decide), ?_⟩
    rw [nI_clamp (by omega)]
    have hl := qc_nle (bt (iu i)) 31
    refine xw_size ?_
    refine pk_lt (qc_n (bt (iu i)) 31) k (fun hb => nm_r (nI_1 i) (ih _ ?_)) (fun hb => nm_r (nI_1 _) (nm_r (nI_1 i) (ih _ ?_)))
    · rw [qc_nf (P := fun u => decide (k ≤ qc_n (bt (iu u)) 31)) (by simp only [decide_eq_true_eq]; omega)]
    · rw [qc_nt (P := fun u => decide (k ≤ qc_n (bt (iu u)) 31)) (by simp only [decide_eq_true_eq]; omega)]
theorem yw_domain {post : Int32 → Prop} (hu : ∀ i, i < 31 → a (186 + i) = iu i) (H : post (nI (qc_n (fun u => decide (1 ≤ qc_n (bt (iu u)) 31)) 31))) : wpY_domain post (d, s, g, a) := by
  refine loop_0 (fun n i c => wY_domain_4 post d s g a n c (nI i)) (fun i c => c = nI (qc_n (fun u => decide (1 ≤ qc_n (bt (iu u)) 31)) i)) 31 0 rfl ?_ ?_
  · rintro n c rfl
    exact br_t (nI_le (Nat.le_refl 31) (by omega)) H
  · rintro n i c hi rfl ih
    refine br_f (nI_ge (b := 31) hi (by decide)) (yw_imagesOf hi ?_)
    rw [hu i hi]
    have hl := qc_nle (bt (iu i)) 31
    refine pk_le (qc_n (bt (iu i)) 31) 0 (fun hb => nm_r (nI_1 i) (ih _ ?_)) (fun hb => nm_r (nI_1 _) (nm_r (nI_1 i) (ih _ ?_)))
    · rw [qc_nf (P := fun u => decide (1 ≤ qc_n (bt (iu u)) 31)) (by simp only [decide_eq_true_eq]; omega)]
    · rw [qc_nt (P := fun u => decide (1 ≤ qc_n (bt (iu u)) 31)) (by simp only [decide_eq_true_eq]; omega)]
theorem yw_manyValued {post : Int32 → Prop} (hu : ∀ i, i < 31 → a (186 + i) = iu i) (H : post (nI (qc_n (fun u => decide (2 ≤ qc_n (bt (iu u)) 31)) 31))) : wpY_manyValued post (d, s, g, a) := by
  refine loop_0 (fun n i c => wY_manyValued_4 post d s g a n c (nI i)) (fun i c => c = nI (qc_n (fun u => decide (2 ≤ qc_n (bt (iu u)) 31)) i)) 31 0 rfl ?_ ?_
  · rintro n c rfl
    exact br_t (nI_le (Nat.le_refl 31) (by omega)) H
  · rintro n i c hi rfl ih
    refine br_f (nI_ge (b := 31) hi (by decide)) (yw_imagesOf hi ?_)
    rw [hu i hi]
    have hl := qc_nle (bt (iu i)) 31
    refine pk_le (qc_n (bt (iu i)) 31) 1 (fun hb => nm_r (nI_1 i) (ih _ ?_)) (fun hb => nm_r (nI_1 _) (nm_r (nI_1 i) (ih _ ?_)))
    · rw [qc_nf (P := fun u => decide (2 ≤ qc_n (bt (iu u)) 31)) (by simp only [decide_eq_true_eq]; omega)]
    · rw [qc_nt (P := fun u => decide (2 ≤ qc_n (bt (iu u)) 31)) (by simp only [decide_eq_true_eq]; omega)]
theorem xw_fixed {post : Int32 → Prop} (H : post (nI (qc_n (fun u => bt (iu u) u) 31))) : wpX_fixed post (h, t, p, st, iu, m) := by
  refine loop_0 (fun n i c => wX_fixed_4 post h t p st iu m n c (nI i)) (fun i c => c = nI (qc_n (fun u => bt (iu u) u) i)) 31 0 rfl ?_ ?_
  · rintro n c rfl
    exact br_t (nI_le (Nat.le_refl 31) (by omega)) H
  · rintro n i c hi rfl ih
    refine br_f (nI_ge (b := 31) hi (by decide)) ⟨vp_in_nI hi (by decide), ?_⟩
    rw [nI_clamp (by omega)]
    refine xw_hb hi (fun hb => nm_r (nI_1 _) (nm_r (nI_1 i) (ih _ ?_))) (fun hb => nm_r (nI_1 i) (ih _ ?_))
    · rw [qc_nt (P := fun u => bt (iu u) u) hb]
    · rw [qc_nf (P := fun u => bt (iu u) u) hb]
theorem yw_fixed {post : Int32 → Prop} (hu : ∀ i, i < 31 → a (186 + i) = iu i) (H : post (nI (qc_n (fun u => bt (iu u) u) 31))) : wpY_fixed post (d, s, g, a) := by
  refine loop_0 (fun n i c => wY_fixed_4 post d s g a n c (nI i)) (fun i c => c = nI (qc_n (fun u => bt (iu u) u) i)) 31 0 rfl ?_ ?_
  · rintro n c rfl
    exact br_t (nI_le (Nat.le_refl 31) (by omega)) H
  · rintro n i c hi rfl ih
    refine br_f (nI_ge (b := 31) hi (by decide)) (yw_hb (r := 6) (by omega) hi (fun hb => nm_r (nI_1 _) (nm_r (nI_1 i) (ih _ ?_))) (fun hb => nm_r (nI_1 i) (ih _ ?_)))
    · rw [show 31 * 6 + i = 186 + i from rfl, hu i hi] at hb
      rw [qc_nt (P := fun u => bt (iu u) u) hb]
    · rw [show 31 * 6 + i = 186 + i from rfl, hu i hi] at hb
      rw [qc_nf (P := fun u => bt (iu u) u) hb]
theorem xw_src {post : Int32 → Prop} {w : Nat} (hw : w < 31) (H : post (nI (qc_n (fun u => bt (iu u) w) 31))) : ∃ n, wX_sources_22 post (nI w) h t p st iu m n 0 0 := by
  refine loop_0 (fun n i c => wX_sources_22 post (nI w) h t p st iu m n c (nI i)) (fun i c => c = nI (qc_n (fun u => bt (iu u) w) i)) 31 0 rfl ?_ ?_
  · rintro n c rfl
    exact br_t (nI_le (Nat.le_refl 31) (by omega)) H
  · rintro n i c hi rfl ih
    refine br_f (nI_ge (b := 31) hi (by decide)) ⟨vp_in_nI hi (by decide), ?_⟩
    rw [nI_clamp (by omega)]
    refine xw_hb hw (fun hb => nm_r (nI_1 _) (nm_r (nI_1 i) (ih _ ?_))) (fun hb => nm_r (nI_1 i) (ih _ ?_))
    · rw [qc_nt (P := fun u => bt (iu u) w) hb]
    · rw [qc_nf (P := fun u => bt (iu u) w) hb]
theorem yw_src {post : Int32 → Prop} {p0 p1 : Int32} {w : Nat} (hu : ∀ i, i < 31 → a (186 + i) = iu i) (e : (((1 : Int32) <<< (p0 &&& 31)) - 1) + p1 = nI w) (hw : w < 31) (H : post (nI (qc_n (fun u => bt (iu u) w) 31))) : ∃ n, wY_sources_16 post p0 p1 d s g a n 0 0 := by
  refine loop_0 (fun n i c => wY_sources_16 post p0 p1 d s g a n c (nI i)) (fun i c => c = nI (qc_n (fun u => bt (iu u) w) i)) 31 0 rfl ?_ ?_
  · rintro n c rfl
    exact br_t (nI_le (Nat.le_refl 31) (by omega)) H
  · rintro n i c hi rfl ih
    refine br_f (nI_ge (b := 31) hi (by decide)) ?_
    rw [e]
    refine yw_hb (r := 6) (by omega) hw (fun hb => nm_r (nI_1 _) (nm_r (nI_1 i) (ih _ ?_))) (fun hb => nm_r (nI_1 i) (ih _ ?_))
    · rw [show 31 * 6 + i = 186 + i from rfl, hu i hi] at hb
      rw [qc_nt (P := fun u => bt (iu u) w) hb]
    · rw [show 31 * 6 + i = 186 + i from rfl, hu i hi] at hb
      rw [qc_nf (P := fun u => bt (iu u) w) hb]
def qc_t (iu : Nat → Int32) (u w : Nat) : Bool := qc_a (fun v => bt (iu u) v && bt (iu v) w) 31
theorem xw_ts15 {post : Int32 → Prop} {J : Int32 → Int32 → Prop} {c u : Nat} (hu : u < 31) (H : J (nI (c + qc_n (qc_t iu u) 31)) (nI (u + 1))) : ∃ n, wX_twoSteps_15 post J (nI c) (nI u) h t p st iu m n 0 0 := by
  refine loop_0 (fun n i x => wX_twoSteps_15 post J (nI c) (nI u) h t p st iu m n x (nI i)) (fun i x => ∀ w, bt x w = qc_a (fun v => bt (iu u) v && bt (iu v) w) i) 31 0 (fun w => b_0 w) ?_ ?_
  · intro n x I
    refine br_t (nI_le (Nat.le_refl 31) (by omega)) (xw_size (nm_r (nI_add _ _) (nm_r (nI_1 u) ?_)))
    rw [show bt x = qc_t iu u from funext I]
    exact H
  · intro n i x hi I ih
    refine br_f (nI_ge (b := 31) hi (by decide)) ⟨vp_in_nI hu (by decide), ?_⟩
    rw [nI_clamp (n := u) (by omega)]
    refine xw_hb hi (fun hb => ⟨vp_in_nI hi (by decide), nm_e (nm_r (nI_1 i) (ih _ fun w => ?_))⟩) (fun hb => nm_r (nI_1 i) (ih _ fun w => ?_))
    · rw [nI_clamp (n := i) (by omega), b_or, I w]
      show _ = (_ || (bt (iu u) i && bt (iu i) w))
      rw [hb, Bool.true_and]
    · rw [I w]
      show _ = (_ || (bt (iu u) i && bt (iu i) w))
      rw [Bool.not_eq_true _ |>.mp hb, Bool.false_and, Bool.or_false]
theorem xw_twoSteps {post : Int32 → Prop} (H : post (nI (qc_s (fun u => qc_n (qc_t iu u) 31) 31))) : wpX_twoSteps post (h, t, p, st, iu, m) := by
  refine loop_0 (fun n i c => wX_twoSteps_4 post h t p st iu m n c (nI i)) (fun i c => c = nI (qc_s (fun u => qc_n (qc_t iu u) 31) i)) 31 0 rfl ?_ ?_
  · rintro n c rfl
    exact br_t (nI_le (Nat.le_refl 31) (by omega)) H
  · rintro n i c hi rfl ih
    exact br_f (nI_ge (b := 31) hi (by decide)) (xw_ts15 hi (ih _ rfl))
theorem yw_leads {post : Int32 → Prop} {u w : Nat} (hi : ∀ i, i < 31 → a (186 + i) = iu i) (hu : u < 31) (hw : w < 31) (h1 : qc_t iu u w = true → post 1) (h0 : ¬ qc_t iu u w = true → post 0) : wpY_leads post (d, s, g, a) (nI u) (nI w) := by
  refine loop_0 (fun n i (_ : Unit) => wY_leads_2 post (nI u) (nI w) d s g a n (nI i)) (fun i _ => qc_a (fun v => bt (iu u) v && bt (iu v) w) i = false) 31 () rfl ?_ ?_
  · intro n _ I
    exact br_t (nI_le (Nat.le_refl 31) (by omega)) (h0 (by unfold qc_t; rw [I]; exact Bool.noConfusion))
  · intro n i _ hi' I ih
    have e : ∀ b : Bool, (bt (iu u) i && bt (iu i) w) = b → qc_a (fun v => bt (iu u) v && bt (iu v) w) (i + 1) = b := fun b hb => by
      show (_ || (bt (iu u) i && bt (iu i) w)) = b
      rw [I, Bool.false_or]; exact hb
    refine br_f (nI_ge (b := 31) hi' (by decide)) (yw_hb (r := 6) (by omega) hi' (fun hb => ?_) (fun hb => nm_r (nI_1 i) (ih () (e _ ?_))))
    · rw [show 31 * 6 + u = 186 + u from rfl, hi u hu] at hb
      refine yw_hb (r := 6) (by omega) hw (fun hc => h1 (qc_ale (e true ?_) (by omega))) (fun hc => nm_r (nI_1 i) (ih () (e _ ?_)))
      · rw [show 31 * 6 + i = 186 + i from rfl, hi i hi'] at hc
        rw [hb, hc]; rfl
      · rw [show 31 * 6 + i = 186 + i from rfl, hi i hi'] at hc
        rw [Bool.not_eq_true _ |>.mp hc, Bool.and_false]
    · rw [show 31 * 6 + u = 186 + u from rfl, hi u hu] at hb
      rw [Bool.not_eq_true _ |>.mp hb, Bool.false_and]
theorem yw_twoSteps {post : Int32 → Prop} (hu : ∀ i, i < 31 → a (186 + i) = iu i) (H : post (nI (qc_s (fun u => qc_n (qc_t iu u) 31) 31))) : wpY_twoSteps post (d, s, g, a) := by
  refine loop_0 (fun n i c => wY_twoSteps_4 post d s g a n c (nI i)) (fun i c => c = nI (qc_s (fun u => qc_n (qc_t iu u) 31) i)) 31 0 rfl ?_ ?_
  · rintro n c rfl
    exact br_t (nI_le (Nat.le_refl 31) (by omega)) H
  · rintro n i c hi rfl ih
    refine br_f (nI_ge (b := 31) hi (by decide)) ?_
    refine loop_0 (fun n' j c => wY_twoSteps_12 post (wY_twoSteps_4 post d s g a n) (nI i) d s g a n' c (nI j)) (fun j c => c = nI (qc_s (fun u => qc_n (qc_t iu u) 31) i + qc_n (qc_t iu i) j)) 31 _ rfl ?_ ?_
    · rintro n' c rfl
      exact br_t (nI_le (Nat.le_refl 31) (by omega)) (nm_r (nI_1 i) (ih _ rfl))
    · rintro n' j c hj rfl ih'
      refine br_f (nI_ge (b := 31) hj (by decide)) (yw_leads hu hi hj (fun hb => br_f xw_10 (nm_r (nI_1 _) (nm_r (nI_1 j) (ih' _ ?_)))) (fun hb => br_t rfl (nm_r (nI_1 j) (ih' _ ?_))))
      · rw [qc_nt hb]; rfl
      · rw [qc_nf hb]
theorem qi_t : ∀ v, v < 31 → ((16 * nI (wn_ln v)) + nI v) - (((1 : Int32) <<< (nI (wn_ln v) &&& 31)) - 1) = (16 * nI (wn_ln v)) + (nI v - ((((1 : Int32) <<< (nI (wn_ln v) &&& 31)) - 1) + 0)) := by decide +kernel
theorem qi_scan {p0 p1 k : Int32} {w : Nat} (hu : ∀ i, i < 31 → a (186 + i) = iu i) (e : (((1 : Int32) <<< (p0 &&& 31)) - 1) + p1 = nI w) (hw : w < 31) : ∀ (n i : Nat) (b : Int32), i + n = 31 → ∃ r : Int32, (∀ post : Int32 → Prop, post r → wX_image_23 post k (nI w) h t p st iu m (n + 1) b (nI i)) ∧ (∀ post : Int32 → Prop, post r → wY_image_17 post p0 p1 k d s g a (n + 1) b (nI i)) := by
  intro n
  induction n with
  | zero =>
    intro i b hi
    obtain rfl : i = 31 := hi
    exact ⟨-4, fun post hp => br_t (nI_le (Nat.le_refl 31) (by omega)) hp, fun post hp => br_t (nI_le (Nat.le_refl 31) (by omega)) hp⟩
  | succ n ih =>
    intro i b hi
    have hi' : i < 31 := by omega
    have c31 : ¬ (31 : Int32) ≤ nI i := nI_ge (b := 31) hi' (by decide)
    have ew : (nI w).toNatClampNeg = w := nI_clamp (by omega)
    have X : ∀ (post : Int32 → Prop) (A B : Prop), (bt (iu w) i = true → B) → (¬ bt (iu w) i = true → A) → vp_in (nI w) 31 ∧ wpX_holds (fun r => (r = 0 → A) ∧ (¬ r = 0 → B)) (iu (nI w).toNatClampNeg) (nI i) := fun post A B f1 f0 => by
      rw [ew]
      exact ⟨vp_in_nI hw (by decide), xw_hb hi' f1 f0⟩
    have Y : ∀ (post : Int32 → Prop) (A B : Prop), (bt (iu w) i = true → B) → (¬ bt (iu w) i = true → A) → wpY_has (fun r => (r = 0 → A) ∧ (¬ r = 0 → B)) (d, s, g, a) 6 ((((1 : Int32) <<< (p0 &&& 31)) - 1) + p1) (nI i) := fun post A B f1 f0 => by
      rw [e]
      refine yw_hb (r := 6) (by omega) hi' (fun z => f1 ?_) (fun z => f0 ?_)
      · rw [← hu w hw]; exact z
      · rw [← hu w hw]; exact z
    by_cases hb : bt (iu w) i = true
    · by_cases hk : b = k
      · refine ⟨(16 * nI (wn_ln i)) + (nI i - ((((1 : Int32) <<< (nI (wn_ln i) &&& 31)) - 1) + 0)), fun post hp => ?_, fun post hp => ?_⟩
        · refine br_f c31 (X post _ _ (fun _ => br_t hk ?_) (fun z => absurd hb z))
          exact xw_len hi' (nm_e hp)
        · refine br_f c31 (Y post _ _ (fun _ => br_t hk ?_) (fun z => absurd hb z))
          refine yw_len hi' ?_
          rw [qi_t i hi']
          exact hp
      · obtain ⟨r, rX, rY⟩ := ih (i + 1) (b + 1) (by omega)
        refine ⟨r, fun post hp => ?_, fun post hp => ?_⟩
        · exact br_f c31 (X post _ _ (fun _ => br_f hk (nm_e (nm_r (nI_1 i) (rX post hp)))) (fun z => absurd hb z))
        · exact br_f c31 (Y post _ _ (fun _ => br_f hk (nm_e (nm_r (nI_1 i) (rY post hp)))) (fun z => absurd hb z))
    · obtain ⟨r, rX, rY⟩ := ih (i + 1) b (by omega)
      refine ⟨r, fun post hp => ?_, fun post hp => ?_⟩
      · exact br_f c31 (X post _ _ (fun z => absurd z hb) (fun _ => nm_r (nI_1 i) (rX post hp)))
      · exact br_f c31 (Y post _ _ (fun z => absurd z hb) (fun _ => nm_r (nI_1 i) (rY post hp)))
end QS
