/-! star -/
theorem rl_pwc {R R' : Nat → Nat → Prop} (hR : ∀ u, u < 31 → ∀ v, v < 31 → (R u v ↔ R' u v)) : ∀ n u v, rl_pw R n u v ↔ rl_pw R' n u v := by
  intro n
  induction n with
  | zero => exact fun _ _ => Iff.rfl
  | succ n ih => exact rl_catc (fun u hu v hv => or_congr Iff.rfl (hR u hu v hv)) (fun u _ v _ => ih u v)
theorem xw_star {post : Int32 → SX → Prop} {d s : Nat} {p : Int32} {st iu m : Nat → Int32} (hd : d + 1 ≤ 6) (hs : s < 18)
    (H : ∀ st' m' : Nat → Int32, (∀ i, i < 31 → ∀ v, bt (st' (31 * d + i)) v = true ↔ rl_pw (xw_R st (31 * d)) 8 i v) → (∀ i, i < 31 * d ∨ 31 * d + 31 ≤ i → st' i = st i) → post (nI (d + 1)) (nI (d + 1), nI (s + 1), p, st', iu, m')) :
    wpX_star post (nI (d + 1), nI s, p, st, iu, m) := by
  unfold wpX_star
  dsimp only
  refine br_t (nI_lt (b := 18) hs (by decide)) (br_t (nI_le (a := 1) (by omega) (by omega)) ?_)
  refine xw_top ?_
  refine ⟨vp_in_nI (by omega) (by decide), vp_in_nI (by omega) (by decide), nm_e ?_⟩
  rw [nI_clamp (by omega)]
  refine loop_0 (fun n i (z : (Nat → Int32) × (Nat → Int32)) => wX_star_40 post (nI (31 * d)) n (nI i) (nI (d + 1)) (nI s) p z.1 iu z.2)
    (fun i z => (∀ u, u < 31 → ∀ v, v < 31 → (xw_R z.1 (31 * d) u v ↔ rl_pw (xw_R st (31 * d)) (2 ^ i) u v)) ∧ (∀ k, k < 31 * d ∨ 31 * d + 31 ≤ k → z.1 k = st k) ∧ (0 < i → ∀ u, u < 31 → ∀ v, bt (z.2 u) v = true ↔ rl_pw (xw_R st (31 * d)) (2 ^ i) u v)) 3
    (upd st (31 * d) (st (31 * d) ||| 1), m) ⟨fun u hu v hv => ?_, fun k hk => pk_un (by omega), fun z => absurd z (by decide)⟩ ?_ ?_
  · rw [show 2 ^ 0 = 1 from rfl, rl_pw_1 hu hv]
    show bt (upd st (31 * d) (st (31 * d) ||| 1) (31 * d + u)) v = true ↔ (u = 0 ∧ v = 0) ∨ bt (st (31 * d + u)) v = true
    by_cases e : u = 0
    · subst e
      rw [Nat.add_zero, pk_us, bq_or, bq_1 v (by omega), decide_eq_true_iff]
      exact ⟨fun z => z.elim Or.inr (fun z => Or.inl ⟨rfl, z⟩), fun z => z.elim (fun z => Or.inr z.2) Or.inl⟩
    · rw [pk_un (by omega)]
      exact ⟨Or.inr, fun z => z.elim (fun z => absurd z.1 e) id⟩
  · rintro n ⟨st', m'⟩ ⟨I1, I2, I3⟩
    refine br_t (nI_le (Nat.le_refl 3) (by omega)) ?_
    refine xw_put (by omega) fun st2 e1 e2 => ?_
    rw [nI_1 s]
    refine H st2 m' (fun i hi v => ?_) (fun i hi => (e2 i hi).trans (I2 i hi))
    rw [e1 i hi]
    exact I3 (by decide) i hi v
  · rintro n i ⟨st', m'⟩ hi ⟨I1, I2, I3⟩ ih
    refine br_f (nI_ge (b := 3) hi (by decide)) ?_
    refine xw_makeCat (by omega) (by omega) fun m2 hm => ?_
    refine xw_copy (by omega) fun st2 e1 e2 => ?_
    have key : ∀ u, u < 31 → ∀ v, bt (m2 u) v = true ↔ rl_pw (xw_R st (31 * d)) (2 ^ (i + 1)) u v := by
      intro u hu v
      rw [hm u hu v, rl_catc I1 I1 u v, rl_pw_add, show 2 ^ i + 2 ^ i = 2 ^ (i + 1) by rw [Nat.pow_succ]; omega]
    refine nm_r (nI_1 i) (ih (st2, m2) ⟨fun u hu v hv => ?_, fun k hk => (e2 k hk).trans (I2 k hk), fun _ => key⟩)
    show bt (st2 (31 * d + u)) v = true ↔ _
    rw [e1 u hu]
    exact key u hu v
theorem yw_star {post : Int32 → SY → Prop} {d s : Nat} {p : Int32} {a : Nat → Int32} (hd : d + 1 ≤ 6) (hs : s < 18)
    (H : ∀ a' : Nat → Int32, (∀ i, i < 31 → ∀ v, bt (a' (31 * d + i)) v = true ↔ rl_pw (xw_R a (31 * d)) 8 i v) → (∀ i, i < 31 * d ∨ (31 * d + 31 ≤ i ∧ i < 217) → a' i = a i) → post (nI (d + 1)) (nI (d + 1), nI (s + 1), p, a')) :
    wpY_star post (nI (d + 1), nI s, p, a) := by
  unfold wpY_star
  dsimp only
  refine yw_toOk hd hs ?_
  refine br_t (by decide) ?_
  refine yw_clear (r := 7) (by decide) fun a0 z1 z2 => ?_
  refine yw_put (r := 7) (u := 0) (v := 0) (by decide) ?_
  have p0 : rl_pw (xw_R a (31 * d)) 8 0 0 := rl_pw_8 (n := 0) ⟨rfl, rfl⟩
  refine loop_0 (fun n i a' => wY_star_27 post n (nI i) (nI (d + 1)) (nI s) p a')
    (fun i a' => (∀ u, u < 31 → ∀ v, bt (a' (217 + u)) v = true ↔ ((31 * u + v < i ∧ v < 31) ∨ (u = 0 ∧ v = 0)) ∧ rl_pw (xw_R a (31 * d)) 8 u v) ∧ (∀ k, k < 217 → a' k = a k)) 961 (upd a0 (31 * 7 + 0) (a0 (31 * 7 + 0) ||| ((1 : Int32) <<< (nI 0 &&& 31)))) ⟨fun u hu v => ?_, fun k hk => ?_⟩ ?_ ?_
  · by_cases e : u = 0
    · subst e
      rw [show 31 * 7 + 0 = 217 + 0 from rfl, pk_us, show a0 (217 + 0) = 0 from z1 0 hu, bq_set _ (by decide)]
      constructor
      · rintro (z | rfl)
        · exact absurd z (bq_n0 v)
        · exact ⟨Or.inr ⟨rfl, rfl⟩, p0⟩
      · rintro ⟨z | z, _⟩
        · exact absurd z.1 (Nat.not_lt_zero _)
        · exact Or.inr z.2
    · rw [pk_un (by omega), show a0 (217 + u) = 0 from z1 u hu]
      exact ⟨fun z => absurd z (bq_n0 v), fun z => z.1.elim (fun z => absurd z.1 (Nat.not_lt_zero _)) (fun z => absurd z.1 e)⟩
  · rw [pk_un (by omega)]; exact z2 k (Or.inl hk)
  · intro n a' I
    refine br_t (nI_le (Nat.le_refl 961) (by omega)) ?_
    rw [nI_pred]
    refine yw_copy (r := 7) (r' := d) (by decide) (by omega) (by omega) fun b e1 e2 => ?_
    refine nm_r (nI_1 s) (H b (fun i hi v => ?_) (fun i hi => ?_))
    · rw [e1 i hi]
      refine (I.1 i hi v).trans ⟨And.right, fun z => ⟨Or.inl ?_, z⟩⟩
      have := (rl_pw_lt z).2
      omega
    · rw [e2 i (by omega)]; exact I.2 i (by omega)
  · intro n i a' hi I ih
    have q1 : nI i / 31 = nI (i / 31) := pk_div (d := 31) (by omega) (by decide) (by decide)
    have q2 : nI i - nI i / 31 * 31 = nI (i % 31) := pk_rem (d := 31) (by omega) (by decide) (by decide)
    have hu : i / 31 < 31 := by omega
    have hv : i % 31 < 31 := by omega
    have hi2 : i = 31 * (i / 31) + i % 31 := by omega
    refine br_f (nI_ge (b := 961) hi (by decide)) ⟨by decide, by decide, ?_⟩
    rw [q2, q1, nI_pred]
    generalize i / 31 = u at *
    generalize i % 31 = v at *
    have key : yw_C a' d 7 u v ↔ rl_pw (xw_R a (31 * d)) 8 u v ∧ ¬ (u = 0 ∧ v = 0) := by
      rw [yw_C_ct1 hu hv]
      have hR := xw_Rc (a := a) (a' := a') (c := 31 * d) (c' := 31 * d) fun j hj => I.2 _ (by omega)
      constructor
      · rintro ⟨e, b, c, f, j1, j2, j3, j4, j5⟩
        have l1 := wn_Jle j1
        have l2 := wn_Jle j2
        refine ⟨rl_s1 ⟨e, b, c, f, j1, j2, j3, (hR e j1.1 c j2.1).mp j4, ((I.1 b (wn_Jlt j1).2 f).mp j5).2⟩, ?_⟩
        rintro ⟨rfl, rfl⟩
        omega
      · rintro ⟨g1, g2⟩
        obtain ⟨e, b, c, f, j1, j2, j3, j4, j5⟩ := rl_s2 g1 g2
        have l1 := wn_Jle j1
        have l2 := wn_Jle j2
        have l3 := wn_Jlt j2
        refine ⟨e, b, c, f, j1, j2, j3, (hR e j1.1 c j2.1).mpr j4, (I.1 b (wn_Jlt j1).2 f).mpr ⟨Or.inl ⟨?_, l3.2⟩, j5⟩⟩
        omega
    refine yw_cuts (y := 7) (by omega) (by decide) hu hv (fun hc => br_f xw_10 ⟨by decide, by decide, ?_⟩) (fun hc => br_t rfl (nm_r (nI_1 i) (ih _ ⟨fun u' hu' v' => ?_, I.2⟩)))
    · rw [key] at hc
      refine yw_put (r := 7) (by omega) (nm_r (nI_1 i) (ih _ ⟨fun u' hu' v' => ?_, fun k hk => ?_⟩))
      · by_cases e : u' = u
        · subst e
          rw [show 31 * 7 + u' = 217 + u' from rfl, pk_us, bq_set _ (by omega), I.1 u' hu' v']
          constructor
          · rintro (⟨z1, z2⟩ | rfl)
            · exact ⟨by omega, z2⟩
            · exact ⟨by omega, hc.1⟩
          · rintro ⟨z1, z2⟩
            by_cases e : v' = v
            · exact Or.inr e
            · exact Or.inl ⟨by omega, z2⟩
        · rw [pk_un (by omega), I.1 u' hu' v']
          exact ⟨fun z => ⟨by omega, z.2⟩, fun z => ⟨by omega, z.2⟩⟩
      · rw [pk_un (by omega)]; exact I.2 k hk
    · rw [key] at hc
      rw [I.1 u' hu' v']
      refine ⟨fun z => ⟨by omega, z.2⟩, fun z => ⟨?_, z.2⟩⟩
      by_cases e : u' = u ∧ v' = v
      · obtain ⟨rfl, rfl⟩ := e
        right
        exact Classical.byContradiction fun g => hc ⟨z.2, g⟩
      · omega
theorem i_vc_star {k : Nat} {u : SX} {v : SY} (I : i_Rel k u v) (hk : k + 5 ≤ 2560) : wpX_star (fun r u' => wpY_star (fun r' v' => r' = r ∧ i_Rel (k + 5) u' v') v) u := by
  have J := I
  obtain ⟨h, s, p, st, iu, m, a, h1, h2, h3, rfl, rfl, hs, hu⟩ := I
  by_cases b1 : s = 18
  · subst b1
    exact br_f (by decide) (yw_starFull ⟨rfl, J⟩)
  by_cases b2 : h = 0
  · subst b2
    exact br_t (nI_lt (b := 18) (by omega) (by decide)) (br_f (by decide) (yw_starFew (by omega) ⟨rfl, J⟩))
  obtain ⟨d, rfl⟩ : ∃ d, h = d + 1 := ⟨h - 1, by omega⟩
  refine xw_star h1 (by omega) fun st' m' e1 e2 => ?_
  refine yw_star h1 (by omega) fun a' f1 f2 => ⟨rfl, ?_⟩
  refine iv_two (P := fun _ _ => True) (a := a) (st := st) (m := m) (by omega) (by omega) h3 (fun i hi => hs i (by omega)) hu (fun i hi => ?_) e2 f2
  exact bq_ext (e1 i hi) (fun v => (f1 i hi v).trans (rl_pwc (xw_Rc fun j hj => hs _ (by omega)) 8 i v))
