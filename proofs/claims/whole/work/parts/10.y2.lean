theorem yw_ha_19 {post : Int32 → Prop} {J : Int32 → Int32 → Prop} {o : Int32} {f t : Nat → Int32} {E : Nat → Nat} {d g r : Nat} (hg : g < 1024) (hA : mg_A f E) (hG : mg_G E) (h : J (nI (mg_pa E d g 10)) (nI (r + 1))) : ∀ n k, k + n = 10 → wY_hang_19 post J (nI d) (nI r) o f t (n + 1) (nI (mg_pa E d g k)) (nI k) := by
  intro n
  induction n with
  | zero =>
    intro k hk
    have : k = 10 := by omega
    subst this
    rw [wY_hang_19]
    exact br_t (nI_le (Nat.le_refl 10) (by decide)) (nm_r (nI_1 r) h)
  | succ n ih =>
    intro k hk
    have hk10 : k < 10 := by omega
    have IH := ih (k + 1) (by omega)
    have hp := (mg_pa_s1 (d := d) hG.1 hg k (by omega)).1
    rw [wY_hang_19]
    refine br_f (nI_ge (b := 10) (by omega) (by decide)) ?_
    refine yw_hasC rfl rfl hp hk10 (fun q => ?_) (fun q => ?_)
    · rw [mg_pa_f (by rw [q]; decide)] at IH
      exact nm_r (nI_1 k) IH
    · rw [mg_pa_t q] at IH
      refine ⟨vp_in_nI hk10 (by decide), nm_r (e' := nI (mg_pa E d g k ||| (E k &&& d))) (by rw [mg_Ar hA hk10, nx_and, mg_or]) ?_⟩
      exact nm_r (nI_1 k) IH
theorem yw_ha_10 {post : Int32 → Prop} {o : Int32} {f t : Nat → Int32} {E : Nat → Nat} {d : Nat} (hA : mg_A f E) (hG : mg_G E) : ∀ n r g, r + n = 10 → g < 1024 → post (nI (mg_ip E d n g)) → wY_hang_10 post (nI d) o f t (n + 1) (nI g) (nI r) := by
  intro n
  induction n with
  | zero =>
    intro r g hr hg h
    have : r = 10 := by omega
    subst this
    rw [wY_hang_10]
    exact br_t (nI_le (Nat.le_refl 10) (by decide)) h
  | succ n ih =>
    intro r g hr hg h
    rw [wY_hang_10]
    refine br_f (nI_ge (b := 10) (by omega) (by decide)) ⟨11, ?_⟩
    exact yw_ha_19 hg hA hG (ih (r + 1) _ (by omega) (mg_pa_s1 hG.1 hg 10 (Nat.le_refl 10)).1 h) 10 0 rfl
theorem yw_hang {post : Int32 → Prop} {o : Int32} {f t : Nat → Int32} {E : Nat → Nat} {l : Nat} (hl : l < 1024) (h0 : ¬ l = 0) (hA : mg_A f E) (hG : mg_G E) (h : post (nI (mg_ip E l 10 (2 ^ mg_lo l)))) : wpY_hang post (o, f, t) (nI l) := by
  unfold wpY_hang
  dsimp only
  have l10 := mg_bit_lt hl (mg_lo_s h0 hl).1
  refine yw_first hl h0 ?_
  exact nm_r (mg_p2 l10) ⟨11, yw_ha_10 hA hG 10 0 _ rfl (mg_p2lt l10) h⟩
theorem yw_gr_10 {post : Int32 → SY → Prop} {o : Int32} {f t : Nat → Int32} {E : Nat → Nat} {F : Nat} (hA : mg_A f E) (hG : mg_G E) : ∀ n k l c, k + n = 10 → l < 1024 → (∀ j, j < k → l.testBit j = false) → mg_su l F → mg_cls E F l → post (nI (c + mg_cx (mg_comp E F) n k l)) (o, f, t) → wY_groups_10 post o f t (n + 1) (nI l) (nI c) (nI k) := by
  intro n
  induction n with
  | zero =>
    intro k l c hk hl hj hs hc h
    have : k = 10 := by omega
    subst this
    rw [wY_groups_10]
    exact br_t (nI_le (Nat.le_refl 10) (by decide)) h
  | succ n ih =>
    intro k l c hk hl hj hs hc h
    have hk10 : k < 10 := by omega
    rw [wY_groups_10]
    refine br_f (nI_ge (b := 10) (by omega) (by decide)) ?_
    refine pk_eq l 0 (fun q => ?_) (fun q => ?_)
    · refine nm_r (nI_1 k) (ih (k + 1) l c (by omega) hl ?_ hs hc ?_)
      · intro j _
        rw [q, Nat.zero_testBit]
      · rw [q, mg_cx_0] at h ⊢
        exact h
    · obtain ⟨f1, f2⟩ := mg_lo_s q hl
      have f10 := mg_bit_lt hl f1
      have hC := mg_comp_s (d := F) hG.1 f10
      have e := mg_left hs hc f1 hC (mg_hang_s (d := l) hG.1 f10)
      have e2 := mg_cx_y (C := mg_comp E F) hl q hk10 hj hC.2.1
      rw [show 10 - k = n + 1 from by omega, show 10 - (k + 1) = n from by omega] at e2
      rw [e2] at h
      obtain ⟨s1, s2⟩ := mg_left2 hG.2.1 hG.1 hs hc hC
      refine yw_hang hl q hA hG ?_
      rw [e]
      refine nm_r (mg_sdI l _) (nm_r (nI_1 c) (nm_r (nI_1 k) ?_))
      refine ih (k + 1) _ (c + 1) (by omega) (mg_sd_1 hl) ?_ s1 s2 ?_
      · intro j hj'
        refine mg_ff (fun z => ?_)
        obtain ⟨z1, z2⟩ := mg_sd_i.1 z
        have a1 : ¬ j < mg_lo l := fun y => by rw [f2 j y] at z1; exact absurd z1 (by decide)
        have a2 : ¬ mg_lo l < k := fun y => by rw [hj _ y] at f1; exact absurd f1 (by decide)
        have a3 : j = mg_lo l := by omega
        rw [a3, hC.2.1] at z2
        exact absurd z2 (by decide)
      · rw [show c + 1 + mg_cx (mg_comp E F) n (k + 1) (mg_sd l (mg_comp E F (mg_lo l))) = c + (mg_cx (mg_comp E F) n (k + 1) (mg_sd l (mg_comp E F (mg_lo l))) + 1) from by omega]
        exact h
def mg_v1 (p : Nat) : Int32 := if p < 10 then nI p else -1
theorem mg_v1_1 {p : Nat} (h : p < 10) : mg_v1 p = nI p := if_pos h
theorem mg_v1_2 {p : Nat} (h : ¬ p < 10) : mg_v1 p = -1 := if_neg h
theorem yw_le_2 {post : Int32 → Prop} {o : Int32} {f t : Nat → Int32} {E : Nat → Nat} {l w : Nat} (hl : l < 1024) (hw : w < 10) (hlw : l.testBit w = true) (hA : mg_A f E) (hT : mg_T t E) : ∀ n k, k + n = 10 → post (mg_v1 (mg_fs (fun u => mg_cn E l w u) n k)) → wY_least_2 post (nI w) (nI l) o f t (n + 1) (nI k) := by
  intro n
  induction n with
  | zero =>
    intro k hk h
    have : k = 10 := by omega
    subst this
    rw [wY_least_2]
    exact br_t (nI_le (Nat.le_refl 10) (by decide)) h
  | succ n ih =>
    intro k hk h
    have hk10 : k < 10 := by omega
    have hr : mg_rm (mg_rm l w) k < 1024 := mg_rm_1 (mg_rm_1 hl)
    have b1 := mg_M_b E hl
    have b2 := mg_M_b E hr
    rw [wY_least_2]
    refine br_f (nI_ge (b := 10) (by omega) (by decide)) ?_
    refine ⟨vp_in_nI hw (by decide), yw_hasC (s := l &&& E w) (by rw [mg_Ar hA hw, nx_and]) rfl (mg_an_1 hl) hk10 (fun q => ?_) (fun q => ?_)⟩
    · rw [mg_fs_f (fun c => by rw [mg_an (mg_cn_i.1 c).2.1 (mg_cn_i.1 c).2.2.1] at q; exact absurd q (by decide))] at h
      exact nm_r (nI_1 k) (ih (k + 1) (by omega) h)
    · rw [mg_rmI l hw, mg_rmI _ hk10]
      refine ⟨vp_in_nI hr (by decide), vp_in_nI hl (by decide), ?_⟩
      refine pk_eq (mg_M E (mg_rm (mg_rm l w) k) + 1) (mg_M E l) (fun c => ?_) (fun c => ?_) (by rw [mg_Tr hT hr, nI_1]) (mg_Tr hT hl)
      · rw [mg_fs_t (mg_cn_i.2 ⟨hlw, (mg_an_e q).1, (mg_an_e q).2, c⟩), mg_v1_1 hk10] at h
        exact h
      · rw [mg_fs_f (fun d => c (mg_cn_i.1 d).2.2.2)] at h
        exact nm_r (nI_1 k) (ih (k + 1) (by omega) h)
theorem yw_least {post : Int32 → Prop} {o : Int32} {f t : Nat → Int32} {E : Nat → Nat} {l w : Nat} (hl : l < 1024) (hw : w < 10) (hlw : l.testBit w = true) (hA : mg_A f E) (hT : mg_T t E) (h : post (mg_v1 (mg_fp E l w))) : wpY_least post (o, f, t) (nI w) (nI l) := ⟨11, yw_le_2 hl hw hlw hA hT 10 0 rfl h⟩
theorem yw_pr_21 {post : Int32 → SY → Prop} {o : Int32} {f t : Nat → Int32} {E : Nat → Nat} {v : Nat} (hv : v < 10) (hA : mg_A f E) (hT : mg_T t E) : ∀ n w l, w + n = 10 → l < 1024 → post (mg_vo (mg_pt E v n w l)) (o, f, t) → wY_partner_21 post (nI v) o f t (n + 1) (nI l) (nI w) := by
  intro n
  induction n with
  | zero =>
    intro w l hw hl h
    have : w = 10 := by omega
    subst this
    rw [wY_partner_21]
    exact br_t (nI_le (Nat.le_refl 10) (by decide)) h
  | succ n ih =>
    intro w l hw hl h
    have hw10 : w < 10 := by omega
    have hp := mg_fp_le E l w
    have h10 : ∀ m, m < 1024 → mg_rm m 10 = m := fun m hm => mg_rm_n (mg_ff (fun d => by
      have := mg_bit_lt hm d
      omega))
    rw [wY_partner_21]
    refine br_f (nI_ge (b := 10) (by omega) (by decide)) ?_
    refine yw_hasC rfl rfl hl hw10 (fun q => ?_) (fun q => ?_)
    · have e := mg_fp_n (E := E) q
      rw [mg_pt_3 (by omega) (by omega), e, mg_rm_n q, h10 l hl] at h
      exact nm_r (nI_1 w) (ih (w + 1) l (by omega) hl h)
    · refine yw_least hl hw10 q hA hT ?_
      have R : ¬ w = v → ¬ mg_fp E l w = v → wY_partner_82 post (wY_partner_21 post (nI v) o f t (n + 1)) (nI v) (nI l) (nI w) (mg_v1 (mg_fp E l w)) o f t := by
        intro c1 c2
        rw [mg_pt_3 (fun z => c1 z.1) c2] at h
        have H := ih (w + 1) _ (by omega) (mg_rm_1 (mg_rm_1 hl)) h
        unfold wY_partner_82
        refine nm_r (mg_rmI l hw10) ?_
        by_cases c : mg_fp E l w < 10
        · rw [mg_v1_1 c]
          exact br_t (nI_pos' (by omega)) (nm_r (mg_rmI _ c) (nm_r (nI_1 w) H))
        · rw [mg_v1_2 c]
          have e : mg_fp E l w = 10 := by omega
          rw [e, h10 _ (mg_rm_1 hl)] at H
          exact br_f (by decide) (nm_r (nI_1 w) H)
      refine pk_eq w v (fun c => ?_) (fun c => ?_)
      · unfold wY_partner_60
        refine br_t (by rw [c]) ?_
        by_cases d : mg_fp E l w < 10
        · rw [mg_pt_1 ⟨c, d⟩, mg_vo_1 d] at h
          rw [mg_v1_1 d]
          exact br_t (nI_pos' (by omega)) h
        · rw [mg_pt_3 (fun z => d z.2) (by omega), mg_pt_t hv _ _ _ (by omega) (by rw [mg_rm_b, mg_rm_b, decide_eq_true c]; simp), mg_vo_2 (by omega)] at h
          rw [mg_v1_2 d]
          exact br_f (by decide) h
      · by_cases d : mg_fp E l w = v
        · have d10 : mg_fp E l w < 10 := by omega
          rw [mg_v1_1 d10]
          rw [mg_pt_2 (fun z => c z.1) d, mg_vo_1 hw10] at h
          refine br_t (by rw [d]) (br_f (nI_pos (by omega)) ?_)
          unfold wY_partner_60
          exact br_f (fun z => c ((nI_eq (by omega) (by omega)).1 z)) h
        · refine br_f ?_ (R c d)
          by_cases d10 : mg_fp E l w < 10
          · rw [mg_v1_1 d10]
            exact fun z => d ((nI_eq (by omega) (by omega)).1 z)
          · rw [mg_v1_2 d10]
            exact fun z => mg_ne1 v hv z.symm
theorem yw_bo_b {post : Int32 → Prop} {o : Int32} {f t : Nat → Int32} {x y : Int32} (hxy : mg_bp x y) (h : post 0) : wpY_bothOn post (o, f, t) x y := by
  unfold wpY_bothOn
  dsimp only
  refine yw_badC (fun a ha hx => ?_) (fun _ => h)
  refine yw_badC (fun b hb hy => ?_) (fun _ => h)
  refine br_c (fun _ => h) (fun q => ?_)
  exact absurd (hxy a b ha hb (fun e => q (by rw [hx, hy, e])) hx hy) id
theorem yw_bo_g {post : Int32 → Prop} {f t : Nat → Int32} {s a b : Nat} (hs : s < 1024) (ha : a < 10) (hb : b < 10) (hab : a ≠ b) (h0 : ¬ (s.testBit a = true ∧ s.testBit b = true) → post 0) (h1 : s.testBit a = true → s.testBit b = true → post 1) : wpY_bothOn post (nI s, f, t) (nI a) (nI b) := by
  unfold wpY_bothOn
  dsimp only
  refine yw_bad_g ha (br_t rfl ?_)
  refine yw_bad_g hb (br_t rfl ?_)
  refine br_f (fun q => hab ((nI_eq (by omega) (by omega)).1 q)) ?_
  refine yw_hasC rfl rfl hs ha (fun q => h0 (fun c => by rw [c.1] at q; exact absurd q (by decide))) (fun q => ?_)
  refine yw_hasC rfl rfl hs hb (fun q2 => h0 (fun c => by rw [c.2] at q2; exact absurd q2 (by decide))) (fun q2 => h1 q q2)
theorem yw_without {post : Int32 → Prop} {f t : Nat → Int32} {E : Nat → Nat} {s a b : Nat} (hs : s < 1024) (ha : a < 10) (hb : b < 10) (hT : mg_T t E) (h : post (nI (mg_M E (mg_rm (mg_rm s a) b)))) : wpY_without post (nI s, f, t) (nI a) (nI b) := by
  unfold wpY_without
  dsimp only
  have hr : mg_rm (mg_rm s a) b < 1024 := mg_rm_1 (mg_rm_1 hs)
  rw [mg_rmI s ha, mg_rmI _ hb]
  refine ⟨vp_in_nI hr (by decide), ?_⟩
  rw [mg_Tr hT hr]
  exact h
theorem yw_put1 {post : SY → Prop} {o z : Int32} {f t : Nat → Int32} {E : Nat → Nat} {a b : Nat} (ha : a < 10) (hb : b < 10) (hab : a ≠ b) (hz : ¬ z = 0) (hA : mg_A f E) (h : ∀ f', mg_A f' (mg_ad E a b) → post (o, f', t)) : wpY_put post (o, f, t) (nI a) (nI b) z := by
  unfold wpY_put
  dsimp only
  have ia : vp_in (nI a) 10 := vp_in_nI ha (by decide)
  have ib : vp_in (nI b) 10 := vp_in_nI hb (by decide)
  refine br_f hz ⟨ia, ?_⟩
  unfold wY_put_34
  refine ⟨ia, nm_r (e' := upd f a (nI (E a ||| 2 ^ b))) (by rw [mg_Ar hA ha, nI_clamp (by omega), mg_adI _ hb]) ?_⟩
  refine br_f hz ⟨ib, ib, ?_⟩
  refine nm_r (e' := upd (upd f a (nI (E a ||| 2 ^ b))) b (nI (E b ||| 2 ^ a))) (by rw [nI_clamp (by omega), pk_un (Ne.symm hab), hA b hb, mg_adI _ ha]) ?_
  exact h _ (mg_A_ad ha hb hab hA)
theorem yw_put0 {post : SY → Prop} {o z : Int32} {f t : Nat → Int32} {E : Nat → Nat} {a b : Nat} (ha : a < 10) (hb : b < 10) (hab : a ≠ b) (hz : z = 0) (hA : mg_A f E) (h : ∀ f', mg_A f' (mg_cu E a b) → post (o, f', t)) : wpY_put post (o, f, t) (nI a) (nI b) z := by
  unfold wpY_put
  dsimp only
  have ia : vp_in (nI a) 10 := vp_in_nI ha (by decide)
  have ib : vp_in (nI b) 10 := vp_in_nI hb (by decide)
  refine br_t hz ⟨ia, ?_⟩
  unfold wY_put_34
  refine ⟨ia, nm_r (e' := upd f a (nI (mg_rm (E a) b))) (by rw [mg_Ar hA ha, nI_clamp (by omega), mg_rmI _ hb]) ?_⟩
  refine br_t hz ⟨ib, ib, ?_⟩
  refine nm_r (e' := upd (upd f a (nI (mg_rm (E a) b))) b (nI (mg_rm (E b) a))) (by rw [nI_clamp (by omega), pk_un (Ne.symm hab), hA b hb, mg_rmI _ ha]) ?_
  exact h _ (mg_A_cu ha hb hab hA)
theorem yw_ci_50 {post : Int32 → SY → Prop} {J : Int32 → Int32 → Int32 → (Nat → Int32) → (Nat → Int32) → Prop} {x1 x2 o : Int32} {f t : Nat → Int32} {E : Nat → Nat} {c v w : Nat} (hv : v < 10) (hw : w < 10) (hvw : v ≠ w) (hA : mg_A f E) (hG : mg_G E) (h0 : (E v).testBit w = false → ∀ f', mg_A f' (mg_ad E v w) → J (nI (c + 1)) (nI (v + 1)) o f' t) (h1 : (E v).testBit w = true → J (nI c) (nI (v + 1)) o f t) : wY_circle_50 post J x1 x2 (nI c) (nI v) (nI w) o f t := by
  unfold wY_circle_50
  refine ⟨vp_in_nI hv (by decide), yw_hasC (mg_Ar hA hv) rfl (hG.1 v hv) hw (fun q => ?_) (fun q => nm_r (nI_1 v) (h1 q))⟩
  exact yw_put1 hv hw hvw (by decide) hA (fun f' hf => nm_r (nI_1 c) (nm_r (nI_1 v) (h0 q f' hf)))
theorem yw_ci_30 {post : Int32 → SY → Prop} {o : Int32} {t : Nat → Int32} {E : Nat → Nat} {a b : Nat} (hab : a + 2 ≤ b) (hb : b < 10) (h : ∀ f E', mg_A f E' → (∀ i j, (E' i).testBit j = true ↔ ((E i).testBit j = true ∨ mg_ep b a i j ∨ ∃ w, a ≤ w ∧ w < b ∧ mg_ep w (w + 1) i j)) → post (nI (mg_sm E a (b - a) + mg_no ((E b).testBit a))) (o, f, t)) : ∀ n v f E', v + n = b → a ≤ v → mg_A f E' → mg_YI E a v E' → wY_circle_30 post (nI a) (nI b) (n + 2) (nI (mg_sm E a (v - a))) (nI v) o f t := by
  intro n
  induction n with
  | zero =>
    intro v f E' hv hav hA hY
    have : v = b := by omega
    subst this
    rw [wY_circle_30]
    refine br_f (nI_nlt (Nat.le_refl v) (by omega)) (br_t rfl ?_)
    have e := mg_YI_p hY hab
    refine yw_ci_50 hb (by omega) (by omega) hA hY.1 (fun q f' hf => ?_) (fun q => ?_)
    · rw [wY_circle_30]
      refine br_t (nI_lt (Nat.lt_succ_self v) (by omega)) ?_
      have H := h f' _ hf (mg_YI_e1 hY (by omega))
      rw [e] at q
      rw [mg_no_f (by rw [q]; decide)] at H
      exact H
    · rw [wY_circle_30]
      refine br_t (nI_lt (Nat.lt_succ_self v) (by omega)) ?_
      have H := h f E' hA (mg_YI_e2 hY (by omega) hb q)
      rw [e] at q
      rw [mg_no_t q] at H
      exact H
  | succ n ih =>
    intro v f E' hv hav hA hY
    rw [wY_circle_30]
    refine br_f (nI_nlt (by omega) (by omega)) (br_f (fun z => absurd ((nI_eq (by omega) (by omega)).1 z) (by omega)) ?_)
    rw [nI_1 v]
    have e := mg_YI_o hY hav
    refine yw_ci_50 (by omega) (by omega) (by omega) hA hY.1 (fun q f' hf => ?_) (fun q => ?_)
    · have H := ih (v + 1) f' _ (by omega) (by omega) hf (mg_YI_s hY hav (by omega))
      rw [e] at q
      rw [mg_sm_s E hav, mg_no_f (by rw [q]; decide)] at H
      exact H
    · have H := ih (v + 1) f E' (by omega) (by omega) hA (mg_YI_k hY hav (by omega) q)
      rw [e] at q
      rw [mg_sm_s E hav, mg_no_t q] at H
      exact H
theorem yw_ne_8 {post : Int32 → SY → Prop} {f t : Nat → Int32} {E : Nat → Nat} {s : Nat} (hs : s < 1024) (hT : mg_T t E) (h : post (nI (mg_ct (mg_nd E s) 10)) (nI s, f, t)) : ∀ n k, k + n = 10 → wY_needed_8 post (nI s) f t (n + 1) (nI (mg_ct (mg_nd E s) k)) (nI k) := by
  intro n
  induction n with
  | zero =>
    intro k hk
    have : k = 10 := by omega
    subst this
    rw [wY_needed_8]
    exact br_t (nI_le (Nat.le_refl 10) (by decide)) h
  | succ n ih =>
    intro k hk
    have hk10 : k < 10 := by omega
    have hl : mg_rm s k < 1024 := mg_rm_1 hs
    have b1 := mg_M_b E hs
    have b2 := mg_M_b E hl
    have IH := ih (k + 1) (by omega)
    have K0 : mg_nd E s k = false → wY_needed_8 post (nI s) f t (n + 1) (nI (mg_ct (mg_nd E s) k)) (nI (k + 1)) := fun z => by
      have e : mg_ct (mg_nd E s) (k + 1) = mg_ct (mg_nd E s) k + (mg_nd E s k).toNat := rfl
      rw [e, z] at IH
      exact IH
    have K1 : mg_nd E s k = true → wY_needed_8 post (nI s) f t (n + 1) (nI (mg_ct (mg_nd E s) k + 1)) (nI (k + 1)) := fun z => by
      have e : mg_ct (mg_nd E s) (k + 1) = mg_ct (mg_nd E s) k + (mg_nd E s k).toNat := rfl
      rw [e, z] at IH
      exact IH
    rw [wY_needed_8]
    refine br_f (nI_ge (b := 10) (by omega) (by decide)) ?_
    refine yw_hasC rfl rfl hs hk10 (fun q => ?_) (fun q => ?_)
    · exact nm_r (nI_1 k) (K0 (mg_ff (fun c => by rw [(mg_nd_i.1 c).1] at q; exact absurd q (by decide))))
    · rw [mg_rmI s hk10]
      refine ⟨vp_in_nI hl (by decide), vp_in_nI hs (by decide), ?_⟩
      refine pk_le (mg_M E s) (mg_M E (mg_rm s k)) (fun c => ?_) (fun c => ?_) (mg_Tr hT hs) (mg_Tr hT hl)
      · exact nm_r (nI_1 k) (K0 (mg_ff (fun d => by have := (mg_nd_i.1 d).2; omega)))
      · exact nm_r (nI_1 _) (nm_r (nI_1 k) (K1 (mg_nd_i.2 ⟨q, c⟩)))
