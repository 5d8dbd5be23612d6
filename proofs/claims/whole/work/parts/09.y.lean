theorem yw_has {post : Int32 → Prop} {o : Int32} {f t : Nat → Int32} {x y : Int32} {s v : Nat} (hx : x = nI s) (hy : y = nI v) (hs : s < 1024) (hv : v < 10) (h : post (mg_bi (s.testBit v))) : wpY_has post (o, f, t) x y := by
  subst hx
  subst hy
  unfold wpY_has
  dsimp only
  refine mg_hc hs hv (fun q => ?_) (fun q => ?_)
  · rw [mg_bi_t q] at h
    exact h
  · rw [mg_bi_f q] at h
    exact h
theorem yw_hasC {o : Int32} {f t : Nat → Int32} {x y : Int32} {s v : Nat} {A B : Prop} (hx : x = nI s) (hy : y = nI v) (hs : s < 1024) (hv : v < 10) (c : s.testBit v = false → A) (d : s.testBit v = true → B) : wpY_has (fun r => (r = 0 → A) ∧ (¬ r = 0 → B)) (o, f, t) x y := yw_has hx hy hs hv (mg_bi_c c d)
theorem yw_bad_g {post : Int32 → Prop} {o : Int32} {f t : Nat → Int32} {v : Nat} (hv : v < 10) (h : post 0) : wpY_bad post (o, f, t) (nI v) := by
  unfold wpY_bad
  dsimp only
  exact br_f (nI_pos (by omega)) (br_t (nI_le (b := 9) (by omega) (by decide)) h)
theorem yw_bad_b {post : Int32 → Prop} {o : Int32} {f t : Nat → Int32} {x : Int32} (hx : x < 0 ∨ nI 10 ≤ x) (h : post 1) : wpY_bad post (o, f, t) x := by
  unfold wpY_bad
  dsimp only
  refine br_c (fun _ => h) (fun q => br_c (fun q2 => ?_) (fun _ => h))
  rcases hx with hx | hx
  · exact absurd hx q
  · exact absurd (Int32.le_trans hx q2) (by decide)
theorem yw_badC {o : Int32} {f t : Nat → Int32} {x : Int32} {A B : Prop} (c : ∀ v, v < 10 → x = nI v → A) (d : (x < 0 ∨ nI 10 ≤ x) → B) : wpY_bad (fun r => (r = 0 → A) ∧ (¬ r = 0 → B)) (o, f, t) x := by
  rcases pk_ix x (n := 10) (by decide) with h | h | ⟨v, hv, h⟩
  · exact yw_bad_b (Or.inl h) (br_f (by decide) (d (Or.inl h)))
  · exact yw_bad_b (Or.inr h) (br_f (by decide) (d (Or.inr h)))
  · rw [h]
    exact yw_bad_g hv (br_t rfl (c v hv h))
theorem yw_first_2 {post : Int32 → Prop} {o : Int32} {f t : Nat → Int32} {s : Nat} (hs : s < 1024) (h0 : ¬ s = 0) (h : post (nI (mg_lo s))) : ∀ n k, k + n = 10 → (∀ j, j < k → s.testBit j = false) → wY_first_2 post (nI s) o f t (n + 1) (nI k) := by
  intro n
  obtain ⟨l1, l2⟩ := mg_lo_s h0 hs
  have l10 := mg_bit_lt hs l1
  induction n with
  | zero =>
    intro k hk hj
    rw [hj (mg_lo s) (by omega)] at l1
    exact absurd l1 (by decide)
  | succ n ih =>
    intro k hk hj
    rw [wY_first_2]
    refine br_f (nI_ge (b := 10) (by omega) (by decide)) ?_
    refine yw_hasC rfl rfl hs (by omega) (fun q => ?_) (fun q => ?_)
    · refine nm_r (nI_1 k) (ih (k + 1) (by omega) (fun j hj' => ?_))
      rcases Nat.lt_or_eq_of_le (Nat.le_of_lt_succ hj') with z | z
      · exact hj j z
      · rw [z]
        exact q
    · rw [mg_lo_u hs q hj] at h
      exact h
theorem yw_first {post : Int32 → Prop} {o : Int32} {f t : Nat → Int32} {s : Nat} (hs : s < 1024) (h0 : ¬ s = 0) (h : post (nI (mg_lo s))) : wpY_first post (o, f, t) (nI s) := ⟨11, yw_first_2 hs h0 h 10 0 rfl (fun j hj => absurd hj (Nat.not_lt_zero j))⟩
theorem yw_fill_41 {post : SY → Prop} {J : Int32 → (Nat → Int32) → (Nat → Int32) → Prop} {o : Int32} {f t : Nat → Int32} {E : Nat → Nat} {s v : Nat} (hs : s < 1024) (hv : v < 10) (hsv : s.testBit v = true) (hA : mg_A f E) (hE : E v < 1024) (ht : ∀ j, j < s → t j = nI (mg_M E j)) (h : J (nI (s + 1)) f (upd t s (nI (mg_best (mg_M E) (E v) (mg_rm s v) 10)))) : ∀ n k, k + n = 10 → wY_fill_41 post J (nI s) (nI v) (nI (mg_rm s v)) o f t (n + 1) (nI (mg_best (mg_M E) (E v) (mg_rm s v) k)) (nI k) := by
  intro n
  have hr := mg_rm_lt hsv
  have hr1 : mg_rm s v < 1024 := by omega
  induction n with
  | zero =>
    intro k hk
    have : k = 10 := by omega
    subst this
    rw [wY_fill_41]
    refine br_t (nI_le (Nat.le_refl 10) (by decide)) ⟨vp_in_nI hs (by decide), ?_⟩
    exact nm_r (e' := upd t s (nI (mg_best (mg_M E) (E v) (mg_rm s v) 10))) (by rw [nI_clamp (by omega)]) (nm_r (nI_1 s) h)
  | succ n ih =>
    intro k hk
    have hk10 : k < 10 := by omega
    have hu := mg_rm_le (mg_rm s v) k
    have b1 := mg_best_b (E := E) (e := E v) hr1 k
    have b2 := mg_M_b E (s := mg_rm (mg_rm s v) k) (by omega)
    have IH := ih (k + 1) (by omega)
    rw [wY_fill_41]
    refine br_f (nI_ge (b := 10) (by omega) (by decide)) ?_
    refine yw_hasC rfl rfl hr1 hk10 (fun q => ?_) (fun q => ?_)
    · rw [mg_best_f (fun c => by rw [c.1] at q; exact absurd q (by decide))] at IH
      exact nm_r (nI_1 k) IH
    · refine ⟨vp_in_nI hv (by decide), yw_hasC (mg_Ar hA hv) rfl hE hk10 (fun q2 => ?_) (fun q2 => ?_)⟩
      · rw [mg_best_f (fun c => by rw [c.2.1] at q2; exact absurd q2 (by decide))] at IH
        exact nm_r (nI_1 k) IH
      · rw [mg_rmI _ hk10]
        have e : t (nI (mg_rm (mg_rm s v) k)).toNatClampNeg + 1 = nI (mg_M E (mg_rm (mg_rm s v) k) + 1) := by
          rw [nI_clamp (by omega), ht _ (by omega), nI_1]
        have vi : vp_in (nI (mg_rm (mg_rm s v) k)) 1024 := vp_in_nI (by omega) (by decide)
        refine ⟨vi, pk_le (mg_M E (mg_rm (mg_rm s v) k) + 1) (mg_best (mg_M E) (E v) (mg_rm s v) k) (fun c => ?_) (fun c => ?_) e⟩
        · rw [mg_best_f (fun d => by have := d.2.2; omega)] at IH
          exact nm_r (nI_1 k) IH
        · rw [mg_best_t ⟨q, q2, c⟩] at IH
          exact ⟨vi, nm_r e (nm_r (nI_1 k) IH)⟩
theorem yw_fill_9 {post : SY → Prop} {o : Int32} {f : Nat → Int32} {E : Nat → Nat} (hA : mg_A f E) (hG : mg_G E) (h : ∀ t', mg_T t' E → post (o, f, t')) : ∀ n k (t : Nat → Int32), k + n = 1024 → 1 ≤ k → (∀ j, j < k → t j = nI (mg_M E j)) → wY_fill_9 post o (n + 1) (nI k) f t := by
  intro n
  induction n with
  | zero =>
    intro k t hk h1 ht
    have : k = 1024 := by omega
    subst this
    rw [wY_fill_9]
    exact br_t (nI_le (Nat.le_refl 1024) (by decide)) (h t ht)
  | succ n ih =>
    intro k t hk h1 ht
    have k0 : ¬ k = 0 := by omega
    have ks : k < 1024 := by omega
    obtain ⟨l1, l2⟩ := mg_lo_s k0 ks
    have l10 := mg_bit_lt ks l1
    have hl := mg_rm_lt l1
    rw [wY_fill_9]
    refine br_f (nI_ge (b := 1024) (by omega) (by decide)) ?_
    refine yw_first ks k0 ?_
    refine nm_r (mg_rmI k l10) ⟨vp_in_nI (by omega) (by decide), ?_⟩
    refine nm_r (e' := nI (mg_best (mg_M E) (E (mg_lo k)) (mg_rm k (mg_lo k)) 0)) (by rw [nI_clamp (by omega), ht _ hl]; rfl) ⟨11, ?_⟩
    refine yw_fill_41 ks l10 l1 hA (hG.1 _ l10) ht ?_ 10 0 rfl
    rw [← mg_M_s k0 ks]
    refine ih (k + 1) _ (by omega) (by omega) (fun j hj => ?_)
    rcases Nat.lt_or_eq_of_le (Nat.le_of_lt_succ hj) with q | q
    · rw [pk_un (by omega)]
      exact ht j q
    · rw [q, pk_us]
theorem yw_fill {post : SY → Prop} {o : Int32} {f t : Nat → Int32} {E : Nat → Nat} (hA : mg_A f E) (hG : mg_G E) (h : ∀ t', mg_T t' E → post (o, f, t')) : wpY_fill post (o, f, t) := by
  unfold wpY_fill
  dsimp only
  refine nm_e ⟨1024, ?_⟩
  refine yw_fill_9 hA hG h 1023 1 _ rfl (by decide) (fun j hj => ?_)
  have : j = 0 := by omega
  rw [this, pk_us, mg_M_0]
  rfl
theorem yw_count_4 {post : Int32 → Prop} {o : Int32} {f t : Nat → Int32} {s : Nat} (hs : s < 1024) (h : post (nI (mg_cd s))) : ∀ n k, k + n = 10 → wY_count_4 post (nI s) o f t (n + 1) (nI (mg_ct (fun i => s.testBit i) k)) (nI k) := by
  intro n
  induction n with
  | zero =>
    intro k hk
    have : k = 10 := by omega
    subst this
    rw [wY_count_4]
    exact br_t (nI_le (Nat.le_refl 10) (by decide)) h
  | succ n ih =>
    intro k hk
    rw [wY_count_4]
    refine br_f (nI_ge (b := 10) (by omega) (by decide)) ?_
    refine nm_r (e' := nI (mg_ct (fun i => s.testBit i) (k + 1))) (by rw [mg_has hs (by omega), nI_add]; rfl) ?_
    exact nm_r (nI_1 k) (ih (k + 1) (by omega))
theorem yw_count {post : Int32 → Prop} {o : Int32} {f t : Nat → Int32} {s : Nat} (hs : s < 1024) (h : post (nI (mg_cd s))) : wpY_count post (o, f, t) (nI s) := ⟨11, yw_count_4 hs h 10 0 rfl⟩
theorem yw_po_45 {post : Int32 → Prop} {f t : Nat → Int32} {E : Nat → Nat} {s v : Nat} (hs : s < 1024) (hv : v < 10) (hA : mg_A f E) (hT : mg_T t E) : ∀ n k, k + n = 10 → post (if mg_fs (mg_bd E s v) n k < 10 then 2 else 3) → wY_partOf_45 post (nI v) (nI s) f t (n + 1) (nI k) := by
  intro n
  induction n with
  | zero =>
    intro k hk h
    have : k = 10 := by omega
    subst this
    rw [wY_partOf_45]
    exact br_t (nI_le (Nat.le_refl 10) (by decide)) h
  | succ n ih =>
    intro k hk h
    have hk10 : k < 10 := by omega
    have hl : mg_rm s k < 1024 := mg_rm_1 hs
    have b1 := mg_M_b E hs
    have b2 := mg_M_b E hl
    rw [wY_partOf_45]
    refine br_f (nI_ge (b := 10) (by omega) (by decide)) ?_
    refine ⟨vp_in_nI hv (by decide), yw_hasC (s := s &&& E v) (by rw [mg_Ar hA hv, nx_and]) rfl (mg_an_1 hs) hk10 (fun q => ?_) (fun q => ?_)⟩
    · rw [mg_fs_f (fun c => by rw [mg_an (mg_bd_i.1 c).1.1 (mg_bd_i.1 c).1.2] at q; exact absurd q (by decide))] at h
      exact nm_r (nI_1 k) (ih (k + 1) (by omega) h)
    · rw [mg_rmI s hk10]
      refine ⟨vp_in_nI hl (by decide), vp_in_nI hs (by decide), ?_⟩
      refine pk_eq (mg_M E (mg_rm s k)) (mg_M E s) (fun c => ?_) (fun c => ?_) (mg_Tr hT hl) (mg_Tr hT hs)
      · rw [mg_fs_t (mg_bd_i.2 ⟨mg_an_e q, c⟩), if_pos hk10] at h
        exact h
      · rw [mg_fs_f (fun d => c (mg_bd_i.1 d).2)] at h
        exact nm_r (nI_1 k) (ih (k + 1) (by omega) h)
theorem yw_partOf {post : Int32 → Prop} {f t : Nat → Int32} {E : Nat → Nat} {s v : Nat} (hs : s < 1024) (hv : v < 10) (hA : mg_A f E) (hT : mg_T t E) (h : post (nI (mg_po E s v))) : wpY_partOf post (nI s, f, t) (nI v) := by
  unfold wpY_partOf
  dsimp only
  have hl : mg_rm s v < 1024 := mg_rm_1 hs
  have b1 := mg_M_b E hs
  have b2 := mg_M_b E hl
  unfold mg_po at h
  refine yw_hasC rfl rfl hs hv (fun q => ?_) (fun q => ?_)
  · rw [if_neg (by rw [q]; decide)] at h
    exact h
  · rw [if_pos q] at h
    rw [mg_rmI s hv]
    refine ⟨vp_in_nI hl (by decide), vp_in_nI hs (by decide), ?_⟩
    refine pk_eq (mg_M E (mg_rm s v)) (mg_M E s) (fun c => ?_) (fun c => ?_) (mg_Tr hT hl) (mg_Tr hT hs)
    · rw [if_pos c] at h
      exact h
    · rw [if_neg c] at h
      refine ⟨11, yw_po_45 hs hv hA hT 10 0 rfl ?_⟩
      by_cases z : mg_fs (mg_bd E s v) 10 0 < 10
      · rw [if_pos z] at h ⊢
        exact h
      · rw [if_neg z] at h ⊢
        exact h
def mg_my (E : Nat → Nat) (s : Nat) (p : Int32) (v : Nat) : Bool := decide (¬ p ≤ 0) && decide (nI (mg_po E s v) = p)
theorem mg_my_i {E : Nat → Nat} {s : Nat} {p : Int32} {v : Nat} : mg_my E s p v = true ↔ ¬ p ≤ 0 ∧ nI (mg_po E s v) = p := by
  unfold mg_my
  rw [Bool.and_eq_true, decide_eq_true_iff, decide_eq_true_iff]
theorem yw_mem_8 {post : Int32 → SY → Prop} {f t : Nat → Int32} {E : Nat → Nat} {s : Nat} {p : Int32} (hs : s < 1024) (hA : mg_A f E) (hT : mg_T t E) (h : post (nI (mg_set (mg_my E s p) 10)) (nI s, f, t)) : ∀ n k, k + n = 10 → wY_members_8 post p (nI s) f t (n + 1) (nI (mg_set (mg_my E s p) k)) (nI k) := by
  intro n
  induction n with
  | zero =>
    intro k hk
    have : k = 10 := by omega
    subst this
    rw [wY_members_8]
    exact br_t (nI_le (Nat.le_refl 10) (by decide)) h
  | succ n ih =>
    intro k hk
    have IH := ih (k + 1) (by omega)
    rw [wY_members_8]
    refine br_f (nI_ge (b := 10) (by omega) (by decide)) ?_
    refine br_c (fun q => ?_) (fun q => ?_)
    · rw [mg_set_f (fun c => (mg_my_i.1 c).1 q)] at IH
      exact nm_r (nI_1 k) IH
    · refine yw_partOf hs (by omega) hA hT (br_c (fun c => ?_) (fun c => ?_))
      · rw [mg_set_t (mg_my_i.2 ⟨q, c⟩)] at IH
        exact nm_r (mg_adI _ (by omega)) (nm_r (nI_1 k) IH)
      · rw [mg_set_f (fun d => c (mg_my_i.1 d).2)] at IH
        exact nm_r (nI_1 k) IH
theorem yw_members {post : Int32 → SY → Prop} {f t : Nat → Int32} {E : Nat → Nat} {s : Nat} {p : Int32} (hs : s < 1024) (hA : mg_A f E) (hG : mg_G E) (h : ∀ t', mg_T t' E → post (nI (mg_set (mg_my E s p) 10)) (nI s, f, t')) : wpY_members post (nI s, f, t) p := by
  unfold wpY_members
  dsimp only
  exact yw_fill hA hG (fun t' ht => ⟨11, yw_mem_8 hs hA ht (h t' ht) 10 0 rfl⟩)
