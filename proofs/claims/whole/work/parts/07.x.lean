theorem mg_best_0 {g : Nat → Nat} {e r : Nat} : ∀ k, (∀ j, j < k → r.testBit j = false) → mg_best g e r k = g r := by
  intro k
  induction k with
  | zero => exact fun _ => rfl
  | succ k ih =>
    intro h
    rw [mg_best_f (fun q => by rw [h k (by omega)] at q; exact absurd q.1 (by decide))]
    exact ih (fun j hj => h j (by omega))
theorem mg_best_b {E : Nat → Nat} {e r : Nat} (hr : r < 1024) (k : Nat) : mg_best (mg_M E) e r k ≤ 1024 := by
  rcases mg_best_eq (g := mg_M E) (e := e) (r := r) k with h | ⟨u, _, _, _, h⟩
  · rw [h]
    have := mg_M_le E r hr
    omega
  · rw [h]
    have h1 := mg_rm_le r u
    have := mg_M_le E (mg_rm r u) (by omega)
    omega
theorem mg_M_b (E : Nat → Nat) {s : Nat} (hs : s < 1024) : mg_M E s < 1024 := Nat.lt_of_le_of_lt (mg_M_le E s hs) hs
theorem xw_has {post : Int32 → Prop} {x y : Int32} {s v : Nat} (hx : x = nI s) (hy : y = nI v) (hs : s < 1024) (hv : v < 10) (h : post (mg_bi (s.testBit v))) : wpX_has post x y := by
  subst hx
  subst hy
  unfold wpX_has
  refine mg_hc hs hv (fun q => ?_) (fun q => ?_)
  · rw [mg_bi_t q] at h
    exact h
  · rw [mg_bi_f q] at h
    exact h
theorem xw_hasC {x y : Int32} {s v : Nat} {A B : Prop} (hx : x = nI s) (hy : y = nI v) (hs : s < 1024) (hv : v < 10) (f : s.testBit v = false → A) (g : s.testBit v = true → B) : wpX_has (fun r => (r = 0 → A) ∧ (¬ r = 0 → B)) x y := xw_has hx hy hs hv (mg_bi_c f g)
theorem xw_iv_g {post : Int32 → Prop} {v : Nat} (hv : v < 10) (h : post 1) : wpX_isVertex post (nI v) := by
  unfold wpX_isVertex
  exact br_f (nI_pos (by omega)) (br_f (nI_ge (b := 10) hv (by decide)) h)
theorem xw_iv_b {post : Int32 → Prop} {x : Int32} (hx : x < 0 ∨ nI 10 ≤ x) (h : post 0) : wpX_isVertex post x := by
  unfold wpX_isVertex
  refine br_c (fun _ => h) (fun q => ?_)
  rcases hx with hx | hx
  · exact absurd hx q
  · exact br_t hx h
theorem xw_ivC {x : Int32} {A B : Prop} (f : (x < 0 ∨ nI 10 ≤ x) → A) (g : ∀ v, v < 10 → x = nI v → B) : wpX_isVertex (fun r => (r = 0 → A) ∧ (¬ r = 0 → B)) x := by
  rcases pk_ix x (n := 10) (by decide) with h | h | ⟨v, hv, h⟩
  · exact xw_iv_b (Or.inl h) (br_t rfl (f (Or.inl h)))
  · exact xw_iv_b (Or.inr h) (br_t rfl (f (Or.inr h)))
  · rw [h]
    exact xw_iv_g hv (br_f (by decide) (g v hv h))
theorem mg_bad_n {x : Int32} (h : x < 0 ∨ nI 10 ≤ x) : ∀ v, v < 10 → ¬ x = nI v := by
  intro v hv e
  rw [e] at h
  rcases h with h | h
  · exact absurd h (nI_pos (by omega))
  · exact absurd h (nI_ge (b := 10) hv (by decide))
def mg_bp (x y : Int32) : Prop := ∀ a b, a < 10 → b < 10 → a ≠ b → x = nI a → y = nI b → False
theorem xw_ip_g {post : Int32 → Prop} {a b : Nat} (ha : a < 10) (hb : b < 10) (hab : a ≠ b) (h : post 1) : wpX_isPair post (nI a) (nI b) := by
  unfold wpX_isPair
  refine xw_iv_g ha (br_f (by decide) ?_)
  refine xw_iv_g hb (br_f (by decide) ?_)
  exact br_f (fun q => hab ((nI_eq (by omega) (by omega)).1 q)) h
theorem xw_ip_b {post : Int32 → Prop} {x y : Int32} (hxy : mg_bp x y) (h : post 0) : wpX_isPair post x y := by
  unfold wpX_isPair
  refine xw_ivC (fun _ => h) (fun a ha hx => ?_)
  refine xw_ivC (fun _ => h) (fun b hb hy => ?_)
  refine br_c (fun _ => h) (fun q => ?_)
  exact absurd (hxy a b ha hb (fun e => q (by rw [hx, hy, e])) hx hy) id
theorem mg_pair (x y : Int32) : mg_bp x y ∨ ∃ a b, a < 10 ∧ b < 10 ∧ a ≠ b ∧ x = nI a ∧ y = nI b := by
  by_cases h : ∃ a b, a < 10 ∧ b < 10 ∧ a ≠ b ∧ x = nI a ∧ y = nI b
  · exact Or.inr h
  · exact Or.inl (fun a b ha hb hab hx hy => h ⟨a, b, ha, hb, hab, hx, hy⟩)
theorem xw_without {post : Int32 → Prop} {x y : Int32} {s v : Nat} (hx : x = nI s) (hy : y = nI v) (hv : v < 10) (h : post (nI (mg_rm s v))) : wpX_without post x y := by
  unfold wpX_without
  rw [hx, hy, mg_rmI s hv]
  exact h
theorem xw_sizeWith {post : Int32 → Prop} {o : Int32} {f t : Nat → Int32} {s a b m : Nat} (hs : s < 1024) (ha : a < 10) (hb : b < 10) (ht : t (mg_rm (mg_rm s a) b) = nI m) (h : post (nI (m + 1))) : wpX_sizeWith post (o, f, t) (nI s) (nI a) (nI b) := by
  unfold wpX_sizeWith
  dsimp only
  have hl : mg_rm (mg_rm s a) b < 1024 := mg_rm_1 (mg_rm_1 hs)
  refine nm_r (e' := nI (mg_rm (mg_rm s a) b)) (by rw [mg_rmI s ha, mg_rmI _ hb]) ⟨vp_in_nI hl (by decide), ?_⟩
  rw [nI_clamp (by omega), ht, nI_1]
  exact h
theorem xw_lowest_2 {post : Int32 → Prop} {s : Nat} (hs : s < 1024) : ∀ n k, k + n = 9 → post (nI (mg_fs (fun i => s.testBit i) n k)) → wX_lowest_2 post (nI s) (n + 1) (nI k) := by
  intro n
  induction n with
  | zero =>
    intro k hk h
    have : k = 9 := by omega
    subst this
    rw [wX_lowest_2]
    exact br_t (nI_le (Nat.le_refl 9) (by decide)) h
  | succ n ih =>
    intro k hk h
    rw [wX_lowest_2]
    refine br_f (nI_ge (b := 9) (by omega) (by decide)) ?_
    refine xw_hasC rfl rfl hs (by omega) (fun q => ?_) (fun q => ?_)
    · refine nm_r (nI_1 k) (ih (k + 1) (by omega) ?_)
      rw [mg_fs_f (by rw [q]; decide)] at h
      exact h
    · rw [mg_fs_t q] at h
      exact h
theorem xw_lowest {post : Int32 → Prop} {s : Nat} (hs : s < 1024) (h : post (nI (mg_lo s))) : wpX_lowest post (nI s) := ⟨10, xw_lowest_2 hs 9 0 rfl h⟩
theorem xw_measured_21 {post : Int32 → Prop} {o : Int32} {f t : Nat → Int32} {E : Nat → Nat} {s v : Nat} (hs : s < 1024) (hv : v < 10) (hsv : s.testBit v = true) (hA : mg_A f E) (hE : E v < 1024) (ht : ∀ j, j < s → t j = nI (mg_M E j)) (h : post (nI (mg_best (mg_M E) (E v) (mg_rm s v) 10))) : ∀ n k, k + n = 10 → v < k → wX_measured_21 post (nI s) (nI v) o f t (n + 1) (nI (mg_best (mg_M E) (E v) (mg_rm s v) k)) (nI k) := by
  intro n
  induction n with
  | zero =>
    intro k hk hvk
    have : k = 10 := by omega
    subst this
    rw [wX_measured_21]
    exact br_t (nI_le (Nat.le_refl 10) (by decide)) h
  | succ n ih =>
    intro k hk hvk
    have hr := mg_rm_lt hsv
    have hr1 : mg_rm s v < 1024 := by omega
    have hu := mg_rm_le (mg_rm s v) k
    have b1 := mg_best_b (E := E) (e := E v) hr1 k
    have b2 := mg_M_b E (s := mg_rm (mg_rm s v) k) (by omega)
    have IH := ih (k + 1) (by omega) (by omega)
    rw [wX_measured_21]
    refine br_f (nI_ge (b := 10) (by omega) (by decide)) ?_
    refine xw_hasC rfl rfl hs (by omega) (fun q => ?_) (fun q => ?_)
    · rw [mg_best_f (fun c => by rw [(mg_rm_i.1 c.1).1] at q; exact absurd q (by decide))] at IH
      exact nm_r (nI_1 k) IH
    · refine ⟨vp_in_nI hv (by decide), xw_hasC (mg_Ar hA hv) rfl hE (by omega) (fun q2 => ?_) (fun q2 => ?_)⟩
      · rw [mg_best_f (fun c => by rw [c.2.1] at q2; exact absurd q2 (by decide))] at IH
        exact nm_r (nI_1 k) IH
      · refine xw_sizeWith hs hv (by omega) (ht _ (by omega)) ?_
        refine pk_le (mg_M E (mg_rm (mg_rm s v) k) + 1) (mg_best (mg_M E) (E v) (mg_rm s v) k) (fun c => ?_) (fun c => ?_)
        · rw [mg_best_f (fun d => by have := d.2.2; omega)] at IH
          exact nm_r (nI_1 k) IH
        · rw [mg_best_t ⟨mg_rm_i.2 ⟨q, by omega⟩, q2, c⟩] at IH
          exact nm_r (nI_1 k) IH
theorem xw_measured {post : Int32 → Prop} {o : Int32} {f t : Nat → Int32} {E : Nat → Nat} {s : Nat} (h0 : ¬ s = 0) (hs : s < 1024) (hA : mg_A f E) (hG : mg_G E) (ht : ∀ j, j < s → t j = nI (mg_M E j)) (h : post (nI (mg_M E s))) : wpX_measured post (o, f, t) (nI s) := by
  unfold wpX_measured
  dsimp only
  obtain ⟨l1, l2⟩ := mg_lo_s h0 hs
  have l10 := mg_bit_lt hs l1
  rw [mg_M_s h0 hs] at h
  refine xw_lowest hs (xw_without rfl rfl l10 ?_)
  have hl := mg_rm_lt l1
  refine ⟨vp_in_nI (by omega) (by decide), ?_⟩
  refine nm_r (e' := nI (mg_best (mg_M E) (E (mg_lo s)) (mg_rm s (mg_lo s)) (mg_lo s + 1))) ?_ ?_
  · rw [nI_clamp (by omega), ht _ hl, mg_best_0 (mg_lo s + 1) (fun j hj => ?_)]
    cases q : (mg_rm s (mg_lo s)).testBit j with
    | false => rfl
    | true =>
      obtain ⟨q1, q2⟩ := mg_rm_i.1 q
      rw [l2 j (by omega)] at q1
      exact absurd q1 (by decide)
  · refine nm_r (nI_1 _) ⟨(9 - mg_lo s) + 1, ?_⟩
    exact xw_measured_21 hs l10 l1 hA (hG.1 _ l10) ht h (9 - mg_lo s) (mg_lo s + 1) (by omega) (by omega)
theorem xw_measure_9 {post : SX → Prop} {o : Int32} {f : Nat → Int32} {E : Nat → Nat} (hA : mg_A f E) (hG : mg_G E) (h : ∀ t', mg_T t' E → post (o, f, t')) : ∀ n k (t : Nat → Int32), k + n = 1024 → 1 ≤ k → (∀ j, j < k → t j = nI (mg_M E j)) → wX_measure_9 post o (n + 1) (nI k) f t := by
  intro n
  induction n with
  | zero =>
    intro k t hk h1 ht
    have : k = 1024 := by omega
    subst this
    rw [wX_measure_9]
    exact br_t (nI_le (Nat.le_refl 1024) (by decide)) (h t ht)
  | succ n ih =>
    intro k t hk h1 ht
    rw [wX_measure_9]
    refine br_f (nI_ge (b := 1024) (by omega) (by decide)) ?_
    refine xw_measured (by omega) (by omega) hA hG ht ?_
    refine ⟨vp_in_nI (by omega) (by decide), ?_⟩
    refine nm_r (e' := upd t k (nI (mg_M E k))) (by rw [nI_clamp (by omega)]) ?_
    refine nm_r (nI_1 k) (ih (k + 1) _ (by omega) (by omega) (fun j hj => ?_))
    rcases Nat.lt_or_eq_of_le (Nat.le_of_lt_succ hj) with q | q
    · rw [pk_un (by omega)]
      exact ht j q
    · rw [q, pk_us]
theorem xw_measure {post : SX → Prop} {o : Int32} {f t : Nat → Int32} {E : Nat → Nat} (hA : mg_A f E) (hG : mg_G E) (h : ∀ t', mg_T t' E → post (o, f, t')) : wpX_measure post (o, f, t) := by
  unfold wpX_measure
  dsimp only
  refine nm_e ⟨1024, ?_⟩
  refine xw_measure_9 hA hG h 1023 1 _ rfl (by decide) (fun j hj => ?_)
  have : j = 0 := by omega
  rw [this, pk_us, mg_M_0]
  rfl
theorem xw_count_4 {post : Int32 → Prop} {s : Nat} (hs : s < 1024) (h : post (nI (mg_cd s))) : ∀ n k, k + n = 10 → wX_count_4 post (nI s) (n + 1) (nI (mg_ct (fun i => s.testBit i) k)) (nI k) := by
  intro n
  induction n with
  | zero =>
    intro k hk
    have : k = 10 := by omega
    subst this
    rw [wX_count_4]
    exact br_t (nI_le (Nat.le_refl 10) (by decide)) h
  | succ n ih =>
    intro k hk
    rw [wX_count_4]
    refine br_f (nI_ge (b := 10) (by omega) (by decide)) ?_
    refine nm_r (e' := nI (mg_ct (fun i => s.testBit i) (k + 1))) (by rw [mg_has hs (by omega), nI_add]; rfl) ?_
    exact nm_r (nI_1 k) (ih (k + 1) (by omega))
theorem xw_count {post : Int32 → Prop} {s : Nat} (hs : s < 1024) (h : post (nI (mg_cd s))) : wpX_count post (nI s) := ⟨11, xw_count_4 hs h 10 0 rfl⟩
theorem xw_isFree {post : Int32 → Prop} {f t : Nat → Int32} {E : Nat → Nat} {s v : Nat} (hs : s < 1024) (hv : v < 10) (hT : mg_T t E) (h : post (mg_bi (mg_fb E s v))) : wpX_isFree post (nI s, f, t) (nI v) := by
  unfold wpX_isFree
  dsimp only
  have hl : mg_rm s v < 1024 := mg_rm_1 hs
  have b1 := mg_M_b E hs
  have b2 := mg_M_b E hl
  refine xw_hasC rfl rfl hs hv (fun q => ?_) (fun q => ?_)
  · rw [mg_bi_f (mg_ff (fun c => by rw [(mg_fb_i.1 c).1] at q; exact absurd q (by decide)))] at h
    exact h
  · refine xw_without rfl rfl hv ⟨vp_in_nI hl (by decide), vp_in_nI hs (by decide), ?_⟩
    refine pk_eq (mg_M E (mg_rm s v)) (mg_M E s) (fun c => ?_) (fun c => ?_) (mg_Tr hT hl) (mg_Tr hT hs)
    · rw [mg_bi_t (mg_fb_i.2 ⟨q, c⟩)] at h
      exact h
    · rw [mg_bi_f (mg_ff (fun d => c (mg_fb_i.1 d).2))] at h
      exact h
theorem xw_fv_4 {post : Int32 → Prop} {f t : Nat → Int32} {E : Nat → Nat} {s : Nat} (hs : s < 1024) (hT : mg_T t E) (h : post (nI (mg_fr E s))) : ∀ n k, k + n = 10 → wX_freeVertices_4 post (nI s) f t (n + 1) (nI (mg_set (mg_fb E s) k)) (nI k) := by
  intro n
  induction n with
  | zero =>
    intro k hk
    have : k = 10 := by omega
    subst this
    rw [wX_freeVertices_4]
    exact br_t (nI_le (Nat.le_refl 10) (by decide)) h
  | succ n ih =>
    intro k hk
    have IH := ih (k + 1) (by omega)
    rw [wX_freeVertices_4]
    refine br_f (nI_ge (b := 10) (by omega) (by decide)) ?_
    refine xw_isFree hs (by omega) hT (mg_bi_c (fun q => ?_) (fun q => ?_))
    · rw [mg_set_f (by rw [q]; decide)] at IH
      exact nm_r (nI_1 k) IH
    · rw [mg_set_t q] at IH
      exact nm_r (mg_adI _ (by omega)) (nm_r (nI_1 k) IH)
theorem xw_fv {post : Int32 → Prop} {f t : Nat → Int32} {E : Nat → Nat} {s : Nat} (hs : s < 1024) (hT : mg_T t E) (h : post (nI (mg_fr E s))) : wpX_freeVertices post (nI s, f, t) := ⟨11, xw_fv_4 hs hT h 10 0 rfl⟩
theorem xw_partOf {post : Int32 → Prop} {f t : Nat → Int32} {E : Nat → Nat} {s v : Nat} (hs : s < 1024) (hv : v < 10) (hA : mg_A f E) (h : post (nI (mg_po E s v))) : wpX_partOf post (nI s, f, t) (nI v) (nI (mg_fr E s)) := by
  unfold wpX_partOf
  dsimp only
  unfold mg_po at h
  refine xw_hasC rfl rfl hs hv (fun q => ?_) (fun q => ?_)
  · rw [if_neg (by rw [q]; decide)] at h
    exact h
  · rw [if_pos q] at h
    refine xw_hasC rfl rfl (mg_fr_lt E s) hv (fun q2 => ?_) (fun q2 => ?_)
    · rw [if_neg (fun c => by rw [mg_fr_i.2 ⟨hv, q, c⟩] at q2; exact absurd q2 (by decide))] at h
      refine ⟨vp_in_nI hv (by decide), ?_⟩
      have hl : E v &&& mg_fr E s < 1024 := Nat.lt_of_le_of_lt Nat.and_le_right (mg_fr_lt E s)
      refine pk_eq (E v &&& mg_fr E s) 0 (fun c => ?_) (fun c => ?_) (by rw [mg_Ar hA hv, nx_and])
      · rw [if_neg (mg_po_x.1 c)] at h
        exact h
      · rw [if_pos (Decidable.byContradiction (fun d => c (mg_po_x.2 d)))] at h
        exact h
    · rw [if_pos (mg_fr_i.1 q2).2.2] at h
      exact h
