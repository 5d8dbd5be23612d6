def mg_me (E : Nat → Nat) (s : Nat) (p : Int32) (v : Nat) : Bool := decide (nI (mg_po E s v) = p)
theorem xw_mem_27 {post : Int32 → Prop} {f t : Nat → Int32} {E : Nat → Nat} {s : Nat} {p : Int32} (hs : s < 1024) (hA : mg_A f E) (h : post (nI (mg_set (mg_me E s p) 10))) : ∀ n k, k + n = 10 → wX_members_27 post p (nI (mg_fr E s)) (nI s) f t (n + 1) (nI (mg_set (mg_me E s p) k)) (nI k) := by
  intro n
  induction n with
  | zero =>
    intro k hk
    have : k = 10 := by omega
    subst this
    rw [wX_members_27]
    exact br_t (nI_le (Nat.le_refl 10) (by decide)) h
  | succ n ih =>
    intro k hk
    have IH := ih (k + 1) (by omega)
    rw [wX_members_27]
    refine br_f (nI_ge (b := 10) (by omega) (by decide)) ?_
    refine xw_partOf hs (by omega) hA (br_c (fun q => ?_) (fun q => ?_))
    · rw [mg_set_t (decide_eq_true q)] at IH
      exact nm_r (mg_adI _ (by omega)) (nm_r (nI_1 k) IH)
    · rw [mg_set_f (fun c => q (of_decide_eq_true c))] at IH
      exact nm_r (nI_1 k) IH
theorem xw_mem_17 {post : Int32 → Prop} {f t : Nat → Int32} {E : Nat → Nat} {s : Nat} {p : Int32} (hs : s < 1024) (hA : mg_A f E) (hT : mg_T t E) (h : post (nI (mg_set (mg_me E s p) 10))) : wX_members_17 post p (nI s) f t := by
  unfold wX_members_17
  exact xw_fv hs hT ⟨11, xw_mem_27 hs hA h 10 0 rfl⟩
theorem xw_nb_4 {post : Int32 → Prop} {o : Int32} {f t : Nat → Int32} {E : Nat → Nat} {g : Nat} (hg : g < 1024) (hA : mg_A f E) (h : post (nI (mg_nb E g 10))) : ∀ n k, k + n = 10 → wX_neighboursOf_4 post (nI g) o f t (n + 1) (nI (mg_nb E g k)) (nI k) := by
  intro n
  induction n with
  | zero =>
    intro k hk
    have : k = 10 := by omega
    subst this
    rw [wX_neighboursOf_4]
    exact br_t (nI_le (Nat.le_refl 10) (by decide)) h
  | succ n ih =>
    intro k hk
    have IH := ih (k + 1) (by omega)
    have hk10 : k < 10 := by omega
    rw [wX_neighboursOf_4]
    refine br_f (nI_ge (b := 10) (by omega) (by decide)) ?_
    refine xw_hasC rfl rfl hg hk10 (fun q => ?_) (fun q => ?_)
    · rw [mg_nb_f (by rw [q]; decide)] at IH
      exact nm_r (nI_1 k) IH
    · rw [mg_nb_t q] at IH
      refine ⟨vp_in_nI hk10 (by decide), nm_r (e' := nI (mg_nb E g k ||| E k)) (by rw [mg_Ar hA hk10, mg_or]) ?_⟩
      exact nm_r (nI_1 k) IH
theorem xw_nb {post : Int32 → Prop} {o : Int32} {f t : Nat → Int32} {E : Nat → Nat} {g : Nat} (hg : g < 1024) (hA : mg_A f E) (h : post (nI (mg_nb E g 10))) : wpX_neighboursOf post (o, f, t) (nI g) := ⟨11, xw_nb_4 hg hA h 10 0 rfl⟩
theorem xw_go_7 {post : Int32 → Prop} {o : Int32} {f t : Nat → Int32} {E : Nat → Nat} {d : Nat} (hA : mg_A f E) (hG : mg_G E) : ∀ n k g, k + n = 10 → g < 1024 → post (nI (mg_it E d n g)) → wX_groupOf_7 post (nI d) o f t (n + 1) (nI g) (nI k) := by
  intro n
  induction n with
  | zero =>
    intro k g hk hg h
    have : k = 10 := by omega
    subst this
    rw [wX_groupOf_7]
    exact br_t (nI_le (Nat.le_refl 10) (by decide)) h
  | succ n ih =>
    intro k g hk hg h
    rw [wX_groupOf_7]
    refine br_f (nI_ge (b := 10) (by omega) (by decide)) ?_
    refine xw_nb hg hA ?_
    refine nm_r (e' := nI (mg_st E d g)) (by rw [nx_and, mg_or]; rfl) ?_
    exact nm_r (nI_1 k) (ih (k + 1) (mg_st E d g) (by omega) (mg_st_s hG.1 g hg).1 h)
theorem xw_go {post : Int32 → Prop} {o : Int32} {f t : Nat → Int32} {E : Nat → Nat} {d v : Nat} (hv : v < 10) (hA : mg_A f E) (hG : mg_G E) (h : post (nI (mg_comp E d v))) : wpX_groupOf post (o, f, t) (nI v) (nI d) := by
  unfold wpX_groupOf
  dsimp only
  exact nm_r (mg_p2 hv) ⟨10, xw_go_7 hA hG 9 1 (2 ^ v) rfl (mg_p2lt hv) h⟩
theorem xw_gr_12 {post : Int32 → Prop} {o : Int32} {f t : Nat → Int32} {E : Nat → Nat} {d : Nat} (hA : mg_A f E) (hG : mg_G E) : ∀ n k l c, k + n = 10 → l < 1024 → post (nI (c + mg_cx (mg_comp E d) n k l)) → wX_groups_12 post (nI d) o f t (n + 1) (nI l) (nI c) (nI k) := by
  intro n
  induction n with
  | zero =>
    intro k l c hk hl h
    have : k = 10 := by omega
    subst this
    rw [wX_groups_12]
    exact br_t (nI_le (Nat.le_refl 10) (by decide)) h
  | succ n ih =>
    intro k l c hk hl h
    have hk10 : k < 10 := by omega
    rw [wX_groups_12]
    refine br_f (nI_ge (b := 10) (by omega) (by decide)) ?_
    refine xw_hasC rfl rfl hl hk10 (fun q => ?_) (fun q => ?_)
    · rw [mg_cx_f (by rw [q]; decide)] at h
      exact nm_r (nI_1 k) (ih (k + 1) l c (by omega) hl h)
    · rw [mg_cx_t q] at h
      refine xw_go hk10 hA hG ?_
      refine nm_r (mg_sdI l _) (nm_r (nI_1 c) (nm_r (nI_1 k) ?_))
      refine ih (k + 1) _ (c + 1) (by omega) (mg_sd_1 hl) ?_
      rw [show c + 1 + mg_cx (mg_comp E d) n (k + 1) (mg_sd l (mg_comp E d k)) = c + (mg_cx (mg_comp E d) n (k + 1) (mg_sd l (mg_comp E d k)) + 1) from by omega]
      exact h
theorem xw_ct {post : Int32 → Prop} {o : Int32} {f t : Nat → Int32} {E : Nat → Nat} {l w u : Nat} (hl : l < 1024) (hw : w < 10) (hu : u < 10) (hA : mg_A f E) (hE : E w < 1024) (hT : mg_T t E) (h : post (mg_bi (mg_cn E l w u))) : wpX_canTake post (o, f, t) (nI l) (nI w) (nI u) := by
  unfold wpX_canTake
  dsimp only
  have hr : mg_rm (mg_rm l w) u < 1024 := mg_rm_1 (mg_rm_1 hl)
  have b1 := mg_M_b E hl
  have b2 := mg_M_b E hr
  have N : ¬ mg_cn E l w u = true → post 0 := fun c => by
    rw [mg_bi_f (mg_ff c)] at h
    exact h
  refine xw_hasC rfl rfl hl hw (fun q => N (fun c => ?_)) (fun q => ?_)
  · rw [(mg_cn_i.1 c).1] at q
    exact absurd q (by decide)
  refine xw_hasC rfl rfl hl hu (fun q2 => N (fun c => ?_)) (fun q2 => ?_)
  · rw [(mg_cn_i.1 c).2.1] at q2
    exact absurd q2 (by decide)
  refine ⟨vp_in_nI hw (by decide), xw_hasC (mg_Ar hA hw) rfl hE hu (fun q3 => N (fun c => ?_)) (fun q3 => ?_)⟩
  · rw [(mg_cn_i.1 c).2.2.1] at q3
    exact absurd q3 (by decide)
  refine xw_sizeWith hl hw hu (hT _ hr) ⟨vp_in_nI hl (by decide), ?_⟩
  refine pk_eq (mg_M E (mg_rm (mg_rm l w) u) + 1) (mg_M E l) (fun c => ?_) (fun c => ?_) rfl (mg_Tr hT hl)
  · rw [mg_bi_t (mg_cn_i.2 ⟨q, q2, q3, c⟩)] at h
    exact h
  · exact N (fun d => c (mg_cn_i.1 d).2.2.2)
theorem xw_fp_2 {post : Int32 → Prop} {o : Int32} {f t : Nat → Int32} {E : Nat → Nat} {l w : Nat} (hl : l < 1024) (hw : w < 10) (hA : mg_A f E) (hE : E w < 1024) (hT : mg_T t E) : ∀ n k, k + n = 10 → post (mg_vo (mg_fs (fun u => mg_cn E l w u) n k)) → wX_firstPartner_2 post (nI l) (nI w) o f t (n + 1) (nI k) := by
  intro n
  induction n with
  | zero =>
    intro k hk h
    have : k = 10 := by omega
    subst this
    rw [wX_firstPartner_2]
    exact br_t (nI_le (Nat.le_refl 10) (by decide)) h
  | succ n ih =>
    intro k hk h
    rw [wX_firstPartner_2]
    refine br_f (nI_ge (b := 10) (by omega) (by decide)) ?_
    refine xw_ct hl hw (by omega) hA hE hT (mg_bi_c (fun q => ?_) (fun q => ?_))
    · rw [mg_fs_f (by rw [q]; decide)] at h
      exact nm_r (nI_1 k) (ih (k + 1) (by omega) h)
    · rw [mg_fs_t q, mg_vo_1 (by omega)] at h
      exact h
theorem xw_fp {post : Int32 → Prop} {o : Int32} {f t : Nat → Int32} {E : Nat → Nat} {l w : Nat} (hl : l < 1024) (hw : w < 10) (hA : mg_A f E) (hE : E w < 1024) (hT : mg_T t E) (h : post (mg_vo (mg_fp E l w))) : wpX_firstPartner post (o, f, t) (nI l) (nI w) := ⟨11, xw_fp_2 hl hw hA hE hT 10 0 rfl h⟩
theorem xw_pr_45 {post : Int32 → Prop} {J : Int32 → Int32 → Prop} {o : Int32} {f t : Nat → Int32} {v l w p : Nat} (hv : v < 10) (hw : w < 10) (hl : l < 1024) (hp : p ≤ 10) (h1 : p = v → post (nI w)) (h2 : ¬ p = v → J (nI (mg_rm (mg_rm l w) p)) (nI (w + 1))) : wX_partner_45 post J (nI v) (nI l) (nI w) (mg_vo p) o f t := by
  unfold wX_partner_45
  by_cases c : p < 10
  · rw [mg_vo_1 c]
    refine pk_eq p v h1 (fun q => ?_)
    refine xw_without rfl rfl hw (br_f (mg_ne2 p c) ?_)
    exact xw_without rfl rfl c (nm_r (nI_1 w) (h2 q))
  · have : p = 10 := by omega
    rw [mg_vo_2 c]
    have q : ¬ p = v := by omega
    have hn : (mg_rm l w).testBit p = false := mg_ff (fun d => by
      have := mg_bit_lt (mg_rm_1 hl) d
      omega)
    have H := h2 q
    rw [mg_rm_n hn] at H
    refine br_f (fun e => mg_ne2 v hv e.symm) ?_
    exact xw_without rfl rfl hw (br_t rfl (nm_r (nI_1 w) H))
theorem xw_pr_16 {post : Int32 → Prop} {o : Int32} {f t : Nat → Int32} {E : Nat → Nat} {v : Nat} (hv : v < 10) (hA : mg_A f E) (hG : mg_G E) (hT : mg_T t E) : ∀ n w l, w + n = 10 → l < 1024 → post (mg_vo (mg_pt E v n w l)) → wX_partner_16 post (nI v) o f t (n + 1) (nI l) (nI w) := by
  intro n
  induction n with
  | zero =>
    intro w l hw hl h
    have : w = 10 := by omega
    subst this
    rw [wX_partner_16]
    exact br_t (nI_le (Nat.le_refl 10) (by decide)) h
  | succ n ih =>
    intro w l hw hl h
    have hw10 : w < 10 := by omega
    have hp := mg_fp_le E l w
    rw [wX_partner_16]
    refine br_f (nI_ge (b := 10) (by omega) (by decide)) ?_
    refine xw_fp hl hw10 hA (hG.1 w hw10) hT ?_
    have S : ¬ (w = v ∧ mg_fp E l w < 10) → wX_partner_45 post (wX_partner_16 post (nI v) o f t (n + 1)) (nI v) (nI l) (nI w) (mg_vo (mg_fp E l w)) o f t := by
      intro c
      refine xw_pr_45 hv hw10 hl hp (fun q => ?_) (fun q => ?_)
      · rw [mg_pt_2 c q, mg_vo_1 hw10] at h
        exact h
      · rw [mg_pt_3 c q] at h
        exact ih (w + 1) _ (by omega) (mg_rm_1 (mg_rm_1 hl)) h
    refine pk_eq w v (fun q => ?_) (fun q => S (fun c => q c.1))
    by_cases c : mg_fp E l w < 10
    · rw [mg_vo_1 c]
      refine br_f (mg_ne2 _ c) ?_
      rw [mg_pt_1 ⟨q, c⟩, mg_vo_1 c] at h
      exact h
    · have S' := S (fun d => c d.2)
      rw [mg_vo_2 c] at S' ⊢
      exact br_t rfl S'
theorem xw_ia_33 {post : Int32 → Prop} {f t : Nat → Int32} {E : Nat → Nat} {s a b : Nat} (hs : s < 1024) (ha : a < 10) (hb : b < 10) (hA : mg_A f E) (hG : mg_G E) (hT : mg_T t E) (h1 : (∀ u, u < 10 → u ≠ b → mg_cn E s a u = false) → post 1) (h0 : (∃ u, u < 10 ∧ u ≠ b ∧ mg_cn E s a u = true) → post 0) : ∀ n k, k + n = 10 → (∀ u, u < k → u ≠ b → mg_cn E s a u = false) → wX_inAll_33 post (nI a) (nI b) (nI s) f t (n + 1) (nI k) := by
  intro n
  induction n with
  | zero =>
    intro k hk hu
    have : k = 10 := by omega
    subst this
    rw [wX_inAll_33]
    exact br_t (nI_le (Nat.le_refl 10) (by decide)) (h1 hu)
  | succ n ih =>
    intro k hk hu
    have hk10 : k < 10 := by omega
    rw [wX_inAll_33]
    refine br_f (nI_ge (b := 10) (by omega) (by decide)) ?_
    refine pk_eq k b (fun q => nm_r (nI_1 k) (ih (k + 1) (by omega) (fun u hu1 hu2 => hu u (by omega) hu2))) (fun q => ?_)
    refine xw_ct hs ha hk10 hA (hG.1 a ha) hT (mg_bi_c (fun c => ?_) (fun c => h0 ⟨k, hk10, q, c⟩))
    refine nm_r (nI_1 k) (ih (k + 1) (by omega) (fun u hu1 hu2 => ?_))
    rcases Nat.lt_or_eq_of_le (Nat.le_of_lt_succ hu1) with z | z
    · exact hu u z hu2
    · rw [z]
      exact c
theorem xw_join {post : Int32 → SX → Prop} {o : Int32} {f t : Nat → Int32} {E : Nat → Nat} {a b : Nat} (ha : a < 10) (hb : b < 10) (hab : a ≠ b) (hA : mg_A f E) (hG : mg_G E) (h : ∀ f', mg_A f' (mg_ad E a b) → post (nI (mg_no ((E a).testBit b))) (o, f', t)) : wpX_join post (o, f, t) (nI a) (nI b) := by
  unfold wpX_join
  dsimp only
  have H : ∀ z : Int32, z = nI (mg_no ((E a).testBit b)) → wX_join_18 post (nI a) (nI b) z o f t := by
    intro z hz
    subst hz
    unfold wX_join_18
    have ia : vp_in (nI a) 10 := vp_in_nI ha (by decide)
    have ib : vp_in (nI b) 10 := vp_in_nI hb (by decide)
    refine ⟨ia, ia, ?_⟩
    refine nm_r (e' := upd f a (nI (E a ||| 2 ^ b))) (by rw [mg_Ar hA ha, nI_clamp (by omega), mg_adI _ hb]) ⟨ib, ib, ?_⟩
    refine nm_r (e' := upd (upd f a (nI (E a ||| 2 ^ b))) b (nI (E b ||| 2 ^ a))) (by rw [nI_clamp (by omega), pk_un (Ne.symm hab), hA b hb, mg_adI _ ha]) ?_
    exact h _ (mg_A_ad ha hb hab hA)
  refine ⟨vp_in_nI ha (by decide), xw_hasC (mg_Ar hA ha) rfl (hG.1 a ha) hb (fun q => H 1 ?_) (fun q => H 0 ?_)⟩
  · rw [q]
    rfl
  · rw [q]
    rfl
theorem xw_sep {post : SX → Prop} {o : Int32} {f t : Nat → Int32} {E : Nat → Nat} {a b : Nat} (ha : a < 10) (hb : b < 10) (hab : a ≠ b) (hA : mg_A f E) (h : ∀ f', mg_A f' (mg_cu E a b) → post (o, f', t)) : wpX_separate post (o, f, t) (nI a) (nI b) := by
  unfold wpX_separate
  dsimp only
  have ia : vp_in (nI a) 10 := vp_in_nI ha (by decide)
  have ib : vp_in (nI b) 10 := vp_in_nI hb (by decide)
  refine ⟨ia, xw_without (mg_Ar hA ha) rfl hb ⟨ia, ?_⟩⟩
  refine nm_r (e' := upd f a (nI (mg_rm (E a) b))) (by rw [nI_clamp (by omega)]) ⟨ib, ?_⟩
  refine xw_without (s := E b) (by rw [nI_clamp (by omega), pk_un (Ne.symm hab), hA b hb]) rfl ha ⟨ib, ?_⟩
  refine nm_r (e' := upd (upd f a (nI (mg_rm (E a) b))) b (nI (mg_rm (E b) a))) (by rw [nI_clamp (by omega)]) ?_
  exact h _ (mg_A_cu ha hb hab hA)
theorem xw_edge_50 {post : Int32 → SX → Prop} {z o : Int32} {f t : Nat → Int32} {E : Nat → Nat} (hA : mg_A f E) (hG : mg_G E) (h : ∀ t', mg_T t' E → post z (o, f, t')) : wX_edge_50 post z o f t := by
  unfold wX_edge_50
  exact xw_measure hA hG (fun t' ht => h t' ht)
theorem xw_ci_33 {post : Int32 → SX → Prop} {o : Int32} {E : Nat → Nat} {a b c0 : Nat} (hab : a + 2 ≤ b) (hb : b < 10) (h : ∀ f t E', mg_A f E' → mg_XI E a b b E' → mg_T t E' → post (nI (c0 + mg_sm E a (b - a))) (o, f, t)) : ∀ n v f t E', v + n = b → a ≤ v → mg_A f E' → mg_XI E a b v E' → wX_circle_33 post (nI b) (n + 1) (nI (c0 + mg_sm E a (v - a))) (nI v) o f t := by
  intro n
  induction n with
  | zero =>
    intro v f t E' hv hav hA hX
    have : v = b := by omega
    subst this
    rw [wX_circle_33]
    exact br_t (nI_le (Nat.le_refl v) (by omega)) (xw_measure hA hX.1 (fun t' ht => h f t' E' hA hX ht))
  | succ n ih =>
    intro v f t E' hv hav hA hX
    rw [wX_circle_33]
    refine br_f (nI_ge (by omega) (by omega)) ?_
    rw [nI_1 v]
    refine xw_join (by omega) (by omega) (by omega) hA hX.1 (fun f' hf => ?_)
    refine nm_r (e' := nI (c0 + mg_sm E a (v + 1 - a))) (by rw [mg_XI_o hX hab hav (by omega), nI_add, mg_sm_s E hav, Nat.add_assoc]) ?_
    refine nm_r rfl ?_
    exact ih (v + 1) f' t _ (by omega) (by omega) hf (mg_XI_s hX hav (by omega) hb)
