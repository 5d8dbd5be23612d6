theorem mg_M_z : ∀ s, s < 1024 → mg_M (fun _ => 0) s = 0 := by
  intro s
  induction s using Nat.strongRecOn with
  | _ s ih =>
  intro hs
  by_cases h0 : s = 0
  · rw [h0, mg_M_0]
  · have hl := mg_rm_lt (mg_lo_s h0 hs).1
    rw [mg_M_s h0 hs]
    rcases mg_best_eq (g := mg_M (fun _ => 0)) (e := 0) (r := mg_rm s (mg_lo s)) 10 with h | ⟨u, _, _, h, _⟩
    · rw [h]
      exact ih _ hl (by omega)
    · rw [Nat.zero_testBit] at h
      exact absurd h (by decide)
theorem mg_T_0 : mg_T (fun _ => 0) (fun _ => 0) := by
  intro j hj
  rw [mg_M_z j hj]
  rfl
theorem xw_edge_b {post : Int32 → SX → Prop} {o z x y : Int32} {f t : Nat → Int32} (hxy : mg_bp x y) (h : post (-1) (o, f, t)) : wpX_edge post (o, f, t) x y z := by
  unfold wpX_edge
  dsimp only
  exact xw_ip_b hxy (br_t rfl h)
theorem yw_edge_b {post : Int32 → SY → Prop} {o z x y : Int32} {f t : Nat → Int32} (hxy : mg_bp x y) (h : post (-1) (o, f, t)) : wpY_edge post (o, f, t) x y z := by
  unfold wpY_edge
  dsimp only
  refine yw_badC (fun a ha hx => ?_) (fun _ => h)
  refine yw_badC (fun b hb hy => ?_) (fun _ => h)
  refine br_c (fun _ => h) (fun q => ?_)
  exact absurd (hxy a b ha hb (fun e => q (by rw [hx, hy, e])) hx hy) id
theorem mg_t1 {b : Bool} (h : b = true) : nI b.toNat = 1 := by rw [h]; rfl
theorem mg_t0 {b : Bool} (h : b = false) : nI b.toNat = 0 := by rw [h]; rfl
theorem xw_edge_g {post : Int32 → SX → Prop} {o z : Int32} {f t : Nat → Int32} {E : Nat → Nat} {a b : Nat} (ha : a < 10) (hb : b < 10) (hab : a ≠ b) (hA : mg_A f E) (hG : mg_G E) (h0 : z = 0 → ∀ g s, mg_A g (mg_cu E a b) → mg_T s (mg_cu E a b) → post (nI ((E a).testBit b).toNat) (o, g, s)) (h1 : ¬ z = 0 → ∀ g s, mg_A g (mg_ad E a b) → mg_T s (mg_ad E a b) → post (nI ((E a).testBit b).toNat) (o, g, s)) : wpX_edge post (o, f, t) (nI a) (nI b) z := by
  unfold wpX_edge
  dsimp only
  have H : wX_edge_28 post (nI a) (nI b) z (nI ((E a).testBit b).toNat) o f t := by
    unfold wX_edge_28
    refine br_c (fun c => ?_) (fun c => ?_)
    · exact xw_sep ha hb hab hA (fun g hg => xw_edge_50 hg (mg_G_cu hab hG) (fun s hs => h0 c g s hg hs))
    · exact xw_join ha hb hab hA hG (fun g hg => xw_edge_50 hg (mg_G_ad ha hb hab hG) (fun s hs => h1 c g s hg hs))
  refine xw_ip_g ha hb hab (br_f (by decide) ⟨vp_in_nI ha (by decide), ?_⟩)
  refine xw_hasC (mg_Ar hA ha) rfl (hG.1 a ha) hb (fun q => ?_) (fun q => ?_)
  · rw [mg_t0 q] at H
    exact H
  · rw [mg_t1 q] at H
    exact H
theorem yw_edge_g {post : Int32 → SY → Prop} {o z : Int32} {f t : Nat → Int32} {E : Nat → Nat} {a b : Nat} (ha : a < 10) (hb : b < 10) (hab : a ≠ b) (hA : mg_A f E) (hG : mg_G E) (h0 : z = 0 → ∀ g, mg_A g (mg_cu E a b) → post (nI ((E a).testBit b).toNat) (o, g, t)) (h1 : ¬ z = 0 → ∀ g, mg_A g (mg_ad E a b) → post (nI ((E a).testBit b).toNat) (o, g, t)) : wpY_edge post (o, f, t) (nI a) (nI b) z := by
  unfold wpY_edge
  dsimp only
  refine yw_bad_g ha (br_t rfl ?_)
  refine yw_bad_g hb (br_t rfl ?_)
  refine br_f (fun q => hab ((nI_eq (by omega) (by omega)).1 q)) ⟨vp_in_nI ha (by decide), ?_⟩
  refine nm_r (e' := nI ((E a).testBit b).toNat) (by rw [mg_Ar hA ha, mg_has (hG.1 a ha) hb]) ?_
  by_cases c : z = 0
  · exact yw_put0 ha hb hab c hA (fun g hg => h0 c g hg)
  · exact yw_put1 ha hb hab c hA (fun g hg => h1 c g hg)
theorem xw_turn_g {post : Int32 → SX → Prop} {z : Int32} {f t : Nat → Int32} {s v : Nat} (hs : s < 1024) (hv : v < 10) (h0 : z = 0 → post (nI (s.testBit v).toNat) (nI (mg_rm s v), f, t)) (h1 : ¬ z = 0 → post (nI (s.testBit v).toNat) (nI (s ||| 2 ^ v), f, t)) : wpX_turn post (nI s, f, t) (nI v) z := by
  unfold wpX_turn
  dsimp only
  have H : wX_turn_25 post (nI v) z (nI (s.testBit v).toNat) (nI s) f t := by
    unfold wX_turn_25
    refine br_c (fun c => ?_) (fun c => ?_)
    · exact xw_without rfl rfl hv (h0 c)
    · exact nm_r (mg_adI s hv) (h1 c)
  refine xw_iv_g hv (br_f (by decide) ?_)
  refine xw_hasC rfl rfl hs hv (fun q => ?_) (fun q => ?_)
  · rw [mg_t0 q] at H
    exact H
  · rw [mg_t1 q] at H
    exact H
theorem yw_turn_g {post : Int32 → SY → Prop} {z : Int32} {f t : Nat → Int32} {s v : Nat} (hs : s < 1024) (hv : v < 10) (h0 : z = 0 → post (nI (s.testBit v).toNat) (nI (mg_rm s v), f, t)) (h1 : ¬ z = 0 → post (nI (s.testBit v).toNat) (nI (s ||| 2 ^ v), f, t)) : wpY_turn post (nI s, f, t) (nI v) z := by
  unfold wpY_turn
  dsimp only
  refine yw_bad_g hv (br_t rfl ?_)
  refine nm_r (mg_has hs hv) ?_
  refine br_c (fun c => ?_) (fun c => ?_)
  · exact nm_r (mg_rmI s hv) (h0 c)
  · exact nm_r (mg_adI s hv) (h1 c)
theorem mg_c2 : ∀ a, a < 10 → ∀ b, b < 10 → ((2 : Int32) ≤ nI b - nI a ↔ a + 2 ≤ b) := by decide +kernel
theorem xw_cl_2 {post : SX → Prop} {o : Int32} (h : ∀ f t, mg_A f (fun _ => 0) → mg_T t (fun _ => 0) → post (1023, f, t)) : ∀ n k (f t : Nat → Int32), k + n = 10 → (∀ i, i < k → f i = 0) → wX_clear_2 post o (n + 1) (nI k) f t := by
  intro n
  induction n with
  | zero =>
    intro k f t hk hf
    have : k = 10 := by omega
    subst this
    rw [wX_clear_2]
    have hA : mg_A f (fun _ => 0) := fun i hi => hf i hi
    exact br_t (nI_le (Nat.le_refl 10) (by decide)) (xw_measure hA mg_G_0 (fun s hs => h f s hA hs))
  | succ n ih =>
    intro k f t hk hf
    rw [wX_clear_2]
    refine br_f (nI_ge (b := 10) (by omega) (by decide)) ⟨vp_in_nI (by omega) (by decide), ?_⟩
    refine nm_r (e' := upd f k 0) (by rw [nI_clamp (by omega)]) (nm_r (nI_1 k) ?_)
    refine ih (k + 1) _ t (by omega) (fun i hi => ?_)
    rcases Nat.lt_or_eq_of_le (Nat.le_of_lt_succ hi) with q | q
    · rw [pk_un (by omega)]
      exact hf i q
    · rw [q, pk_us]
theorem yw_cl_9 {post : SY → Prop} {o : Int32} (h : ∀ f t, mg_A f (fun _ => 0) → post (o, f, t)) : ∀ n k (f t : Nat → Int32), k + n = 10 → (∀ i, i < k → f i = 0) → wY_clear_9 post o (n + 1) (nI k) f t := by
  intro n
  induction n with
  | zero =>
    intro k f t hk hf
    have : k = 10 := by omega
    subst this
    rw [wY_clear_9]
    have hA : mg_A f (fun _ => 0) := fun i hi => hf i hi
    exact br_t (nI_le (Nat.le_refl 10) (by decide)) (h f t hA)
  | succ n ih =>
    intro k f t hk hf
    rw [wY_clear_9]
    refine br_f (nI_ge (b := 10) (by omega) (by decide)) ⟨vp_in_nI (by omega) (by decide), ?_⟩
    refine nm_r (e' := upd f k 0) (by rw [nI_clamp (by omega)]) (nm_r (nI_1 k) ?_)
    refine ih (k + 1) _ t (by omega) (fun i hi => ?_)
    rcases Nat.lt_or_eq_of_le (Nat.le_of_lt_succ hi) with q | q
    · rw [pk_un (by omega)]
      exact hf i q
    · rw [q, pk_us]
theorem yw_is {post : Int32 → SY → Prop} {f t : Nat → Int32} {E : Nat → Nat} {s a b : Nat} (hs : s < 1024) (ha : a < 10) (hb : b < 10) (hab : a ≠ b) (hA : mg_A f E) (hG : mg_G E) (h : ∀ t', post (mg_bi (mg_cn E s a b)) (nI s, f, t')) : wpY_inSome post (nI s, f, t) (nI a) (nI b) := by
  unfold wpY_inSome
  dsimp only
  have N : ¬ mg_cn E s a b = true → ∀ t', post 0 (nI s, f, t') := fun c t' => by
    have H := h t'
    rw [mg_bi_f (mg_ff c)] at H
    exact H
  have hr : mg_rm (mg_rm s a) b < 1024 := mg_rm_1 (mg_rm_1 hs)
  have b1 := mg_M_b E hs
  have b2 := mg_M_b E hr
  refine yw_bo_g hs ha hb hab (fun c => br_t rfl (N (fun d => c ⟨(mg_cn_i.1 d).1, (mg_cn_i.1 d).2.1⟩) t)) (fun q1 q2 => br_f (by decide) ⟨vp_in_nI ha (by decide), ?_⟩)
  refine yw_hasC (mg_Ar hA ha) rfl (hG.1 a ha) hb (fun q3 => N (fun d => by rw [(mg_cn_i.1 d).2.2.1] at q3; exact absurd q3 (by decide)) t) (fun q3 => ?_)
  refine yw_fill hA hG (fun t' ht => yw_without hs ha hb ht ⟨vp_in_nI hs (by decide), ?_⟩)
  refine pk_eq (mg_M E (mg_rm (mg_rm s a) b) + 1) (mg_M E s) (fun c => ?_) (fun c => N (fun d => c (mg_cn_i.1 d).2.2.2) t') (nI_1 _) (mg_Tr ht hs)
  have H := h t'
  rw [mg_bi_t (mg_cn_i.2 ⟨q1, q2, q3, c⟩)] at H
  exact H
def mg_hp (E : Nat → Nat) (s a b : Nat) : Bool := s.testBit a && s.testBit b && !(E a).testBit b && decide (mg_M E s < mg_M E (mg_rm (mg_rm s a) b) + 1)
theorem mg_hp_i {E : Nat → Nat} {s a b : Nat} : mg_hp E s a b = true ↔ s.testBit a = true ∧ s.testBit b = true ∧ (E a).testBit b = false ∧ mg_M E s < mg_M E (mg_rm (mg_rm s a) b) + 1 := by
  unfold mg_hp
  rw [Bool.and_eq_true, Bool.and_eq_true, Bool.and_eq_true, decide_eq_true_iff, Bool.not_eq_true']
  exact ⟨fun h => ⟨h.1.1.1, h.1.1.2, h.1.2, h.2⟩, fun h => ⟨⟨⟨h.1, h.2.1⟩, h.2.2.1⟩, h.2.2.2⟩⟩
theorem xw_helps {post : Int32 → Prop} {f t : Nat → Int32} {E : Nat → Nat} {s a b : Nat} (hs : s < 1024) (ha : a < 10) (hb : b < 10) (hab : a ≠ b) (hA : mg_A f E) (hG : mg_G E) (hT : mg_T t E) (h : post (mg_bi (mg_hp E s a b))) : wpX_helps post (nI s, f, t) (nI a) (nI b) := by
  unfold wpX_helps
  dsimp only
  have N : ¬ mg_hp E s a b = true → post 0 := fun c => by
    rw [mg_bi_f (mg_ff c)] at h
    exact h
  have hr : mg_rm (mg_rm s a) b < 1024 := mg_rm_1 (mg_rm_1 hs)
  have b1 := mg_M_b E hs
  have b2 := mg_M_b E hr
  refine xw_ip_g ha hb hab (br_f (by decide) ?_)
  refine xw_hasC rfl rfl hs ha (fun q => N (fun d => by rw [(mg_hp_i.1 d).1] at q; exact absurd q (by decide))) (fun q1 => ?_)
  refine xw_hasC rfl rfl hs hb (fun q => N (fun d => by rw [(mg_hp_i.1 d).2.1] at q; exact absurd q (by decide))) (fun q2 => ?_)
  refine ⟨vp_in_nI ha (by decide), xw_hasC (mg_Ar hA ha) rfl (hG.1 a ha) hb (fun q3 => ?_) (fun q => N (fun d => by rw [(mg_hp_i.1 d).2.2.1] at q; exact absurd q (by decide)))⟩
  refine xw_sizeWith hs ha hb (hT _ hr) ⟨vp_in_nI hs (by decide), ?_⟩
  refine pk_le (mg_M E (mg_rm (mg_rm s a) b) + 1) (mg_M E s) (fun c => N (fun d => by have := (mg_hp_i.1 d).2.2.2; omega)) (fun c => ?_) rfl (mg_Tr hT hs)
  rw [mg_bi_t (mg_hp_i.2 ⟨q1, q2, q3, c⟩)] at h
  exact h
theorem yw_helps {post : Int32 → SY → Prop} {f t : Nat → Int32} {E : Nat → Nat} {s a b : Nat} (hs : s < 1024) (ha : a < 10) (hb : b < 10) (hab : a ≠ b) (hA : mg_A f E) (hG : mg_G E) (h : ∀ t', post (mg_bi (mg_hp E s a b)) (nI s, f, t')) : wpY_helps post (nI s, f, t) (nI a) (nI b) := by
  unfold wpY_helps
  dsimp only
  have N : ¬ mg_hp E s a b = true → ∀ t', post 0 (nI s, f, t') := fun c t' => by
    have H := h t'
    rw [mg_bi_f (mg_ff c)] at H
    exact H
  have hr : mg_rm (mg_rm s a) b < 1024 := mg_rm_1 (mg_rm_1 hs)
  have b1 := mg_M_b E hs
  have b2 := mg_M_b E hr
  refine yw_bo_g hs ha hb hab (fun c => br_t rfl (N (fun d => c ⟨(mg_hp_i.1 d).1, (mg_hp_i.1 d).2.1⟩) t)) (fun q1 q2 => br_f (by decide) ⟨vp_in_nI ha (by decide), ?_⟩)
  refine yw_hasC (mg_Ar hA ha) rfl (hG.1 a ha) hb (fun q3 => ?_) (fun q3 => N (fun d => by rw [(mg_hp_i.1 d).2.2.1] at q3; exact absurd q3 (by decide)) t)
  refine yw_fill hA hG (fun t' ht => yw_without hs ha hb ht ⟨vp_in_nI hs (by decide), ?_⟩)
  refine pk_le (mg_M E (mg_rm (mg_rm s a) b) + 1) (mg_M E s) (fun c => N (fun d => by have := (mg_hp_i.1 d).2.2.2; omega) t') (fun c => ?_) (nI_1 _) (mg_Tr ht hs)
  have H := h t'
  rw [mg_bi_t (mg_hp_i.2 ⟨q1, q2, q3, c⟩)] at H
  exact H
def mg_ia (E : Nat → Nat) (s a b : Nat) : Prop := mg_cn E s a b = true ∧ mg_fb E s a = false ∧ ∀ u, u < 10 → u ≠ b → mg_cn E s a u = false
theorem xw_inAll {post : Int32 → Prop} {f t : Nat → Int32} {E : Nat → Nat} {s a b : Nat} (hs : s < 1024) (ha : a < 10) (hb : b < 10) (hab : a ≠ b) (hA : mg_A f E) (hG : mg_G E) (hT : mg_T t E) (h1 : mg_ia E s a b → post 1) (h0 : ¬ mg_ia E s a b → post 0) : wpX_inAll post (nI s, f, t) (nI a) (nI b) := by
  unfold wpX_inAll
  dsimp only
  refine xw_ip_g ha hb hab (br_f (by decide) ?_)
  refine xw_ct hs ha hb hA (hG.1 a ha) hT (mg_bi_c (fun q => h0 (fun c => by rw [c.1] at q; exact absurd q (by decide))) (fun q => ?_))
  refine xw_isFree hs ha hT (mg_bi_c (fun q2 => ?_) (fun q2 => h0 (fun c => by rw [c.2.1] at q2; exact absurd q2 (by decide))))
  refine ⟨11, xw_ia_33 hs ha hb hA hG hT (fun c => h1 ⟨q, q2, c⟩) (fun c => h0 (fun d => ?_)) 10 0 rfl (fun u hu => absurd hu (Nat.not_lt_zero u))⟩
  obtain ⟨u, u1, u2, u3⟩ := c
  rw [d.2.2 u u1 u2] at u3
  exact absurd u3 (by decide)
theorem mg_back {E : Nat → Nat} {a b : Nat} (ha : a < 10) (hb : b < 10) (hab : a ≠ b) (hG : mg_G E) (h : (E a).testBit b = true) : mg_ad (mg_cu E a b) a b = E := by
  funext i
  apply mg_eq
  intro j
  rw [mg_ad_i hab, mg_cu_i hab]
  constructor
  · rintro (q | ⟨q1, q2⟩ | ⟨q1, q2⟩)
    · exact q.1
    · rw [q1, q2]
      exact h
    · rw [q1, q2, hG.2.1 b a hb ha]
      exact h
  · intro q
    by_cases c1 : i = a ∧ j = b
    · exact Or.inr (Or.inl c1)
    · by_cases c2 : i = b ∧ j = a
      · exact Or.inr (Or.inr c2)
      · exact Or.inl ⟨q, c1, c2⟩
theorem mg_ia_y {E : Nat → Nat} {s a b : Nat} (hs : s < 1024) (hab : a ≠ b) (hG : mg_G E) (h1 : s.testBit a = true) (h2 : s.testBit b = true) (h3 : (E a).testBit b = true) : mg_M (mg_cu E a b) s < mg_M E s ↔ mg_ia E s a b := by
  have ha := mg_bit_lt hs h1
  have eb : mg_cu E a b b = mg_rm (E b) a := if_pos rfl
  have ea : mg_cu E a b a = mg_rm (E a) b := (if_neg hab).trans (if_pos rfl)
  rw [mg_inall hs hG.2.1 (mg_G_cu hab hG).2.1 h1 h2 hab h3 (hG.2.2 a ha) (fun i q1 q2 => (if_neg q2).trans (if_neg q1)) eb ea]
  constructor
  · rintro ⟨r1, r2, r3⟩
    refine ⟨mg_cn_i.2 ⟨h1, h2, h3, r1⟩, mg_ff (fun c => r2 (mg_fb_i.1 c).2), fun u u1 u2 => mg_ff (fun c => ?_)⟩
    obtain ⟨_, c2, c3, c4⟩ := mg_cn_i.1 c
    exact r3 u u1 u2 ⟨c2, c3, c4⟩
  · rintro ⟨r1, r2, r3⟩
    refine ⟨(mg_cn_i.1 r1).2.2.2, fun c => ?_, fun u u1 u2 c => ?_⟩
    · rw [mg_fb_i.2 ⟨h1, c⟩] at r2
      exact absurd r2 (by decide)
    · have := r3 u u1 u2
      rw [mg_cn_i.2 ⟨h1, c.1, c.2.1, c.2.2⟩] at this
      exact absurd this (by decide)
theorem yw_size {post : Int32 → SY → Prop} {f t : Nat → Int32} {E : Nat → Nat} {s : Nat} (hs : s < 1024) (hA : mg_A f E) (hG : mg_G E) (h : ∀ t', mg_T t' E → post (nI (mg_M E s)) (nI s, f, t')) : wpY_size post (nI s, f, t) := by
  unfold wpY_size
  dsimp only
  refine yw_fill hA hG (fun t' ht => ⟨vp_in_nI hs (by decide), ?_⟩)
  dsimp only
  rw [mg_Tr ht hs]
  exact h t' ht
theorem yw_inAll {post : Int32 → SY → Prop} {f t : Nat → Int32} {E : Nat → Nat} {s a b : Nat} (hs : s < 1024) (ha : a < 10) (hb : b < 10) (hab : a ≠ b) (hA : mg_A f E) (hG : mg_G E) (h1 : mg_ia E s a b → ∀ f' t', mg_A f' E → post 1 (nI s, f', t')) (h0 : ¬ mg_ia E s a b → ∀ f' t', mg_A f' E → post 0 (nI s, f', t')) : wpY_inAll post (nI s, f, t) (nI a) (nI b) := by
  unfold wpY_inAll
  dsimp only
  refine yw_bo_g hs ha hb hab (fun c => br_t rfl (h0 (fun d => c ⟨(mg_cn_i.1 d.1).1, (mg_cn_i.1 d.1).2.1⟩) f t hA)) (fun q1 q2 => br_f (by decide) ⟨vp_in_nI ha (by decide), ?_⟩)
  refine yw_hasC (mg_Ar hA ha) rfl (hG.1 a ha) hb (fun q3 => h0 (fun d => by rw [(mg_cn_i.1 d.1).2.2.1] at q3; exact absurd q3 (by decide)) f t hA) (fun q3 => ?_)
  refine yw_size hs hA hG (fun t1 ht1 => ?_)
  refine yw_put0 ha hb hab rfl hA (fun f1 hf1 => ?_)
  refine yw_size hs hf1 (mg_G_cu hab hG) (fun t2 ht2 => ?_)
  refine yw_put1 ha hb hab (by decide) hf1 (fun f2 hf2 => ?_)
  rw [mg_back ha hb hab hG q3] at hf2
  have b1 := mg_M_b E hs
  have b2 := mg_M_b (mg_cu E a b) hs
  have e := mg_ia_y hs hab hG q1 q2 q3
  refine pk_le (mg_M E s) (mg_M (mg_cu E a b) s) (fun c => h0 (fun d => ?_) f2 t2 hf2) (fun c => h1 (e.1 c) f2 t2 hf2)
  have := e.2 d
  omega
theorem mg_po_1 {E : Nat → Nat} {s v : Nat} : mg_po E s v = 1 ↔ s.testBit v = true ∧ mg_M E (mg_rm s v) = mg_M E s := by
  unfold mg_po
  by_cases h1 : s.testBit v = true
  · rw [if_pos h1]
    by_cases h2 : mg_M E (mg_rm s v) = mg_M E s
    · rw [if_pos h2]
      exact ⟨fun _ => ⟨h1, h2⟩, fun _ => rfl⟩
    · rw [if_neg h2]
      refine ⟨fun h => ?_, fun h => absurd h.2 h2⟩
      by_cases h3 : mg_fs (mg_bd E s v) 10 0 < 10
      · rw [if_pos h3] at h
        exact absurd h (by decide)
      · rw [if_neg h3] at h
        exact absurd h (by decide)
  · rw [if_neg h1]
    exact ⟨fun h => absurd h (by decide), fun h => absurd h.1 h1⟩
theorem mg_my_1 (E : Nat → Nat) (s : Nat) : mg_set (mg_my E s 1) 10 = mg_fr E s := by
  refine mg_set_c 10 (fun v hv => mg_beq ?_)
  rw [mg_my_i, mg_fb_i, ← mg_po_1]
  have hp := mg_po_le E s v
  constructor
  · intro h
    exact (nI_eq (a := mg_po E s v) (b := 1) (by omega) (by decide)).1 h.2
  · intro h
    rw [h]
    exact ⟨by decide, rfl⟩
theorem mg_my_p {E : Nat → Nat} {s : Nat} {p : Int32} (hp : ¬ p ≤ 0) : mg_set (mg_my E s p) 10 = mg_set (mg_me E s p) 10 := by
  refine mg_set_c 10 (fun v hv => mg_beq ?_)
  rw [mg_my_i]
  exact ⟨fun h => decide_eq_true h.2, fun h => ⟨hp, of_decide_eq_true h⟩⟩
theorem mg_my_n {E : Nat → Nat} {s : Nat} {p : Int32} (h1 : ¬ p = 1) (h2 : ¬ p = 2) (h3 : ¬ p = 3) : mg_set (mg_my E s p) 10 = 0 := by
  apply mg_eq
  intro v
  rw [mg_set_i, mg_my_i, Nat.zero_testBit]
  refine ⟨fun h => ?_, fun h => absurd h (by decide)⟩
  obtain ⟨_, q1, q2⟩ := h
  have hp := mg_po_le E s v
  generalize mg_po E s v = m at q2 hp
  match m, hp with
  | 0, _ => exact absurd (by rw [← q2]; decide) q1
  | 1, _ => exact absurd q2.symm h1
  | 2, _ => exact absurd q2.symm h2
  | 3, _ => exact absurd q2.symm h3
