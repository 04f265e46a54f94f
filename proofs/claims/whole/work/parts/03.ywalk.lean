/-! the reference's helpers, each with a general post -/
theorem yw_t1 : ∀ w, w < 31 → ∀ i, i < wn_ln w → ¬ (4 : Int32) ≤ nI i ∧ ¬ nI w < ((1 : Int32) <<< ((nI i + 1) &&& 31)) - 1 := by decide +kernel
theorem yw_t2 : ∀ w, w < 31 → (4 : Int32) ≤ nI (wn_ln w) ∨ nI w < ((1 : Int32) <<< ((nI (wn_ln w) + 1) &&& 31)) - 1 := by decide +kernel
theorem yw_t3 : ∀ w, w < 31 → ∀ p, p < wn_ln w + 1 → (((1 : Int32) <<< (nI p &&& 31)) - 1) + ((nI w - (((1 : Int32) <<< (nI (wn_ln w) &&& 31)) - 1)) >>> ((nI (wn_ln w) - nI p) &&& 31)) = nI (wn_hd w p) := by decide +kernel
theorem yw_t4 : ∀ w, w < 31 → ∀ p, p < wn_ln w + 1 → (((1 : Int32) <<< ((nI (wn_ln w) - nI p) &&& 31)) - 1) + ((nI w - (((1 : Int32) <<< (nI (wn_ln w) &&& 31)) - 1)) &&& (((1 : Int32) <<< ((nI (wn_ln w) - nI p) &&& 31)) - 1)) = nI (wn_tl w p) := by decide +kernel
theorem yw_ix (r u : Nat) : (31 : Int32) * nI r + nI u = nI (31 * r + u) := by
  show nI 31 * nI r + nI u = _
  rw [pk_mul, nI_add]
theorem yw_in {r u : Nat} (h : 31 * r + u < 248) : vp_in ((31 : Int32) * nI r + nI u) 248 := by rw [yw_ix]; exact vp_in_nI h (by decide)
theorem yw_ic {r u : Nat} (h : 31 * r + u < 248) : ((31 : Int32) * nI r + nI u).toNatClampNeg = 31 * r + u := by rw [yw_ix]; exact nI_clamp (by omega)
section YS
variable {d s g : Int32} {a : Nat → Int32}
theorem yw_len {post : Int32 → Prop} {w : Nat} (hw : w < 31) (h : post (nI (wn_ln w))) : wpY_lenOf post (d, s, g, a) (nI w) :=
  loop_0 (fun n i (_ : Unit) => wY_lenOf_2 post (nI w) d s g a n (nI i)) (fun _ _ => True) (wn_ln w) () trivial
    (fun n _ _ => br_c (fun _ => h) (fun z => br_t ((yw_t2 w hw).resolve_left z) h))
    (fun n i _ hi _ ih => br_f (yw_t1 w hw i hi).1 (br_f (yw_t1 w hw i hi).2 (nm_r (nI_1 i) (ih () trivial))))
theorem yw_head {post : Int32 → Prop} {w p : Nat} (hw : w < 31) (hp : p ≤ wn_ln w) (h : post (nI (wn_hd w p))) : wpY_head post (d, s, g, a) (nI w) (nI p) :=
  yw_len hw (nm_e (by rw [yw_t3 w hw p (by omega)]; exact h))
theorem yw_tail {post : Int32 → Prop} {w p : Nat} (hw : w < 31) (hp : p ≤ wn_ln w) (h : post (nI (wn_tl w p))) : wpY_tail post (d, s, g, a) (nI w) (nI p) :=
  yw_len hw (nm_e (nm_e (by rw [yw_t4 w hw p (by omega)]; exact h)))
theorem yw_has {post : Int32 → Prop} {r u v : Nat} (hr : 31 * r + u < 248) (hv : v < 31) (h1 : bt (a (31 * r + u)) v = true → post 1) (h0 : ¬ bt (a (31 * r + u)) v = true → post 0) : wpY_has post (d, s, g, a) (nI r) (nI u) (nI v) := by
  refine ⟨yw_in hr, ?_⟩
  rw [yw_ic hr]
  exact ⟨fun z => h1 ((bq_o _ (by omega)).mp z), fun z => h0 (fun g => z ((bq_o _ (by omega)).mpr g))⟩
theorem yw_hb {A B : Prop} {r u v : Nat} (hr : 31 * r + u < 248) (hv : v < 31) (h1 : bt (a (31 * r + u)) v = true → B) (h0 : ¬ bt (a (31 * r + u)) v = true → A) : wpY_has (fun r => (r = 0 → A) ∧ (¬ r = 0 → B)) (d, s, g, a) (nI r) (nI u) (nI v) :=
  yw_has hr hv (fun z => br_f xw_10 (h1 z)) (fun z => br_t rfl (h0 z))
theorem yw_clear {post : SY → Prop} {r : Nat} (hr : r < 8) (hp : ∀ a' : Nat → Int32, (∀ i, i < 31 → a' (31 * r + i) = 0) → (∀ i, i < 31 * r ∨ 31 * r + 31 ≤ i → a' i = a i) → post (d, s, g, a')) : wpY_clear post (d, s, g, a) (nI r) := by
  refine loop_0 (fun n i a' => wY_clear_2 post (nI r) d s g n (nI i) a') (fun i a' => (∀ k, k < i → a' (31 * r + k) = 0) ∧ (∀ k, k < 31 * r ∨ 31 * r + 31 ≤ k → a' k = a k)) 31 a ⟨(fun k hk => absurd hk (Nat.not_lt_zero _)), fun _ _ => rfl⟩ ?_ ?_
  · intro n a' I
    exact br_t (nI_le (Nat.le_refl 31) (by omega)) (hp a' I.1 I.2)
  · intro n i a' hi I ih
    refine br_f (nI_ge (b := 31) hi (by decide)) ⟨yw_in (by omega), nm_e (nm_r (nI_1 i) (ih _ ⟨fun k hk => ?_, fun k hk => ?_⟩))⟩
    · rw [yw_ic (by omega)]
      by_cases e : k = i
      · subst e; exact pk_us
      · rw [pk_un (by omega)]; exact I.1 k (by omega)
    · rw [yw_ic (by omega), pk_un (by omega)]; exact I.2 k hk
theorem yw_copy {post : SY → Prop} {r r' : Nat} (hr : r < 8) (hr' : r' < 8) (hn : r ≠ r') (hp : ∀ a' : Nat → Int32, (∀ i, i < 31 → a' (31 * r' + i) = a (31 * r + i)) → (∀ i, i < 31 * r' ∨ 31 * r' + 31 ≤ i → a' i = a i) → post (d, s, g, a')) : wpY_copy post (d, s, g, a) (nI r) (nI r') := by
  refine loop_0 (fun n i a' => wY_copy_2 post (nI r) (nI r') d s g n (nI i) a') (fun i a' => (∀ k, k < i → a' (31 * r' + k) = a (31 * r + k)) ∧ (∀ k, k < 31 * r' ∨ 31 * r' + 31 ≤ k → a' k = a k)) 31 a ⟨(fun k hk => absurd hk (Nat.not_lt_zero _)), fun _ _ => rfl⟩ ?_ ?_
  · intro n a' I
    exact br_t (nI_le (Nat.le_refl 31) (by omega)) (hp a' I.1 I.2)
  · intro n i a' hi I ih
    refine br_f (nI_ge (b := 31) hi (by decide)) ⟨yw_in (by omega), yw_in (by omega), nm_e (nm_r (nI_1 i) (ih _ ⟨fun k hk => ?_, fun k hk => ?_⟩))⟩
    · rw [yw_ic (by omega), yw_ic (by omega)]
      by_cases e : k = i
      · subst e; rw [pk_us]; exact I.2 _ (by omega)
      · rw [pk_un (by omega)]; exact I.1 k (by omega)
    · rw [yw_ic (by omega), pk_un (by omega)]; exact I.2 k hk
theorem yw_put {post : SY → Prop} {r u v : Nat} (hr : 31 * r + u < 248) (hp : post (d, s, g, upd a (31 * r + u) (a (31 * r + u) ||| ((1 : Int32) <<< (nI v &&& 31))))) : wpY_put post (d, s, g, a) (nI r) (nI u) (nI v) := by
  refine ⟨yw_in hr, yw_in hr, nm_e ?_⟩
  rw [yw_ic hr]
  exact hp
def yw_A (a : Nat → Int32) (x y u v p q : Nat) : Prop := (0 < p + q ∨ y ≠ 7) ∧ bt (a (31 * x + wn_hd u p)) (wn_hd v q) = true ∧ bt (a (31 * y + wn_tl u p)) (wn_tl v q) = true
def yw_C (a : Nat → Int32) (x y u v : Nat) : Prop := ∃ p q, p ≤ wn_ln u ∧ q ≤ wn_ln v ∧ yw_A a x y u v p q
theorem yw_c55 {post J29 : Int32 → Prop} {x5 x8 z0 : Int32} {x y u v p q : Nat} (hx : x < 8) (hy : y < 8) (hu : u < 31) (hv : v < 31) (hp : p ≤ wn_ln u) (hq : q ≤ wn_ln v)
    (h1 : ¬ z0 = 0 → bt (a (31 * x + wn_hd u p)) (wn_hd v q) = true → bt (a (31 * y + wn_tl u p)) (wn_tl v q) = true → post 1)
    (h0 : ¬ (¬ z0 = 0 ∧ bt (a (31 * x + wn_hd u p)) (wn_hd v q) = true ∧ bt (a (31 * y + wn_tl u p)) (wn_tl v q) = true) → J29 (nI (q + 1))) :
    wY_cutsAt_55 post J29 (nI x) (nI y) (nI v) x5 (nI (wn_hd u p)) (nI (wn_tl u p)) x8 (nI q) z0 d s g a := by
  have tu := wn_t2 u hu p (by omega)
  have tv := wn_t2 v hv q (by omega)
  refine yw_head hv hq ?_
  refine yw_tail hv hq ?_
  refine br_c (fun z => nm_r (nI_1 q) (h0 fun c => c.1 z)) (fun z => ?_)
  refine yw_hb (by omega) tv.1 (fun k1 => ?_) (fun k1 => nm_r (nI_1 q) (h0 fun c => k1 c.2.1))
  exact yw_hb (by omega) tv.2.2.2 (fun k2 => h1 z k1 k2) (fun k2 => nm_r (nI_1 q) (h0 fun c => k2 c.2.2))
theorem yw_cutsAt {post : Int32 → Prop} {x y u v p : Nat} (hx : x < 8) (hy : y < 8) (hu : u < 31) (hv : v < 31) (hp : p ≤ wn_ln u)
    (h1 : (∃ q, q ≤ wn_ln v ∧ yw_A a x y u v p q) → post 1) (h0 : (¬ ∃ q, q ≤ wn_ln v ∧ yw_A a x y u v p q) → post 0) : wpY_cutsAt post (d, s, g, a) (nI x) (nI y) (nI u) (nI v) (nI p) := by
  have lu := (wn_t5 u hu).2
  have lv := (wn_t5 v hv).2
  unfold wpY_cutsAt
  dsimp only
  refine yw_head hu hp ?_
  refine yw_tail hu hp ?_
  refine yw_len hv ?_
  refine loop_0 (fun n i (_ : Unit) => wY_cutsAt_29 post (nI x) (nI y) (nI v) (nI p) (nI (wn_hd u p)) (nI (wn_tl u p)) (nI (wn_ln v)) d s g a n (nI i)) (fun i _ => ∀ q, q < i → ¬ yw_A a x y u v p q) (wn_ln v + 1) () (fun q hq => absurd hq (Nat.not_lt_zero _)) ?_ ?_
  · intro n _ I
    exact br_t (nI_lt (by omega) (by omega)) (h0 fun ⟨q, hq, hA⟩ => I q (by omega) hA)
  · intro n i _ hi I ih
    have st : ¬ yw_A a x y u v p i → wY_cutsAt_29 post (nI x) (nI y) (nI v) (nI p) (nI (wn_hd u p)) (nI (wn_tl u p)) (nI (wn_ln v)) d s g a n (nI (i + 1)) := fun hA => ih () (lt_s I hA)
    have k50 : (0 < p + i ∨ y ≠ 7) → wY_cutsAt_55 post (wY_cutsAt_29 post (nI x) (nI y) (nI v) (nI p) (nI (wn_hd u p)) (nI (wn_tl u p)) (nI (wn_ln v)) d s g a n) (nI x) (nI y) (nI v) (nI p) (nI (wn_hd u p)) (nI (wn_tl u p)) (nI (wn_ln v)) (nI i) 1 d s g a := fun hs =>
      yw_c55 hx hy hu hv hp (by omega) (fun _ b1 b2 => h1 ⟨i, by omega, hs, b1, b2⟩) (fun c => st fun hA => c ⟨xw_10, hA.2⟩)
    refine br_f (nI_nlt (by omega) (by omega)) ?_
    rw [nI_add]
    refine pk_lt 0 (p + i) (fun hs => k50 (Or.inl hs)) (fun hs => ?_)
    refine pk_eq y 7 (fun hy7 => ?_) (fun hy7 => k50 (Or.inr hy7))
    exact yw_c55 hx hy hu hv hp (by omega) (fun z => absurd rfl z) (fun _ => st fun hA => hA.1.elim (fun z => by omega) (fun z => z hy7))
theorem yw_cuts {post : Int32 → Prop} {x y u v : Nat} (hx : x < 8) (hy : y < 8) (hu : u < 31) (hv : v < 31)
    (h1 : yw_C a x y u v → post 1) (h0 : ¬ yw_C a x y u v → post 0) : wpY_cuts post (d, s, g, a) (nI x) (nI y) (nI u) (nI v) := by
  have lu := (wn_t5 u hu).2
  unfold wpY_cuts
  dsimp only
  refine yw_len hu ?_
  refine loop_0 (fun n i (_ : Unit) => wY_cuts_10 post (nI x) (nI y) (nI u) (nI v) (nI (wn_ln u)) d s g a n (nI i)) (fun i _ => ∀ p, p < i → ¬ ∃ q, q ≤ wn_ln v ∧ yw_A a x y u v p q) (wn_ln u + 1) () (fun q hq => absurd hq (Nat.not_lt_zero _)) ?_ ?_
  · intro n _ I
    exact br_t (nI_lt (by omega) (by omega)) (h0 fun ⟨p, q, hp, hq, hA⟩ => I p (by omega) ⟨q, hq, hA⟩)
  · intro n i _ hi I ih
    refine br_f (nI_nlt (by omega) (by omega)) ?_
    exact yw_cutsAt hx hy hu hv (by omega) (fun ⟨q, hq, hA⟩ => br_f xw_10 (h1 ⟨i, q, by omega, hq, hA⟩)) (fun c => br_t rfl (nm_r (nI_1 i) (ih () (lt_s I c))))
theorem yw_C_ct1 {x u v : Nat} (hu : u < 31) (hv : v < 31) : yw_C a x 7 u v ↔ rl_ct1 (xw_R a (31 * x)) (xw_R a (31 * 7)) u v := by
  constructor
  · rintro ⟨p, q, hp, hq, h1, h2, h3⟩
    refine ⟨_, _, _, _, wn_Jc hu hp, wn_Jc hv hq, ?_, h2, h3⟩
    have e1 := wn_t2p u hu p (by omega)
    have e2 := wn_t2p v hv q (by omega)
    omega
  · rintro ⟨e, b, c, f, h1, h2, h3, h4, h5⟩
    obtain ⟨p, hp, rfl, rfl⟩ := wn_Jp h1
    obtain ⟨q, hq, rfl, rfl⟩ := wn_Jp h2
    refine ⟨p, q, hp, hq, ?_, h4, h5⟩
    have e1 := wn_t2p u hu p (by omega)
    have e2 := wn_t2p v hv q (by omega)
    omega
theorem yw_C_cat {x y u v : Nat} (hy : y ≠ 7) (hu : u < 31) (hv : v < 31) : yw_C a x y u v ↔ rl_cat (xw_R a (31 * x)) (xw_R a (31 * y)) u v := by
  constructor
  · rintro ⟨p, q, hp, hq, h1, h2, h3⟩
    exact ⟨_, _, _, _, wn_Jc hu hp, wn_Jc hv hq, h2, h3⟩
  · rintro ⟨e, b, c, f, h1, h2, h4, h5⟩
    obtain ⟨p, hp, rfl, rfl⟩ := wn_Jp h1
    obtain ⟨q, hq, rfl, rfl⟩ := wn_Jp h2
    exact ⟨p, q, hp, hq, Or.inr hy, h4, h5⟩
end YS
