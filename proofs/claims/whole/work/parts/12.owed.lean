def i_Rel (k : Nat) (u : SX) (v : SY) : Prop := ∃ (s : Nat) (E : Nat → Nat) (f t f' t' : Nat → Int32), s < 1024 ∧ mg_G E ∧ mg_A f E ∧ mg_A f' E ∧ mg_T t E ∧ u = (nI s, f, t) ∧ v = (nI s, f', t')
theorem mg_R {k s : Nat} {E : Nat → Nat} {f t f' t' : Nat → Int32} (hs : s < 1024) (hG : mg_G E) (hA : mg_A f E) (hA' : mg_A f' E) (hT : mg_T t E) : i_Rel k (nI s, f, t) (nI s, f', t') := ⟨s, E, f, t, f', t', hs, hG, hA, hA', hT, rfl, rfl⟩
theorem i_up {k : Nat} {u : SX} {v : SY} (h : i_Rel k u v) : i_Rel (k + 4) u v := h
theorem i_vc0 : wpX_init (fun u => wpY_init (fun v => i_Rel 0 u v)) := ⟨1023, fun _ => 0, fun _ => 0, fun _ => 0, fun _ => 0, fun _ => 0, by decide, mg_G_0, fun _ _ => rfl, fun _ _ => rfl, mg_T_0, rfl, rfl⟩
theorem i_vc_edge {k : Nat} {u : SX} {v : SY} (I : i_Rel k u v) (hk : k + 4 ≤ 2048) (v1 : Int32) (v2 : Int32) (v3 : Int32) : wpX_edge (fun r u' => wpY_edge (fun r' v' => r' = r ∧ i_Rel (k + 4) u' v') v v1 v2 (lw_bz v3)) u v1 v2 (lw_bz v3) := by
  obtain ⟨s, E, f, t, f', t', hs, hG, hA, hA', hT, rfl, rfl⟩ := I
  rcases mg_pair v1 v2 with hb | ⟨a, b, ha, hb, hab, rfl, rfl⟩
  · exact xw_edge_b hb (yw_edge_b hb ⟨rfl, mg_R hs hG hA hA' hT⟩)
  · refine xw_edge_g ha hb hab hA hG (fun c g tt hg htt => ?_) (fun c g tt hg htt => ?_)
    · exact yw_edge_g ha hb hab hA' hG (fun _ g' hg' => ⟨rfl, mg_R hs (mg_G_cu hab hG) hg hg' htt⟩) (fun d => absurd c d)
    · exact yw_edge_g ha hb hab hA' hG (fun d => absurd d c) (fun _ g' hg' => ⟨rfl, mg_R hs (mg_G_ad ha hb hab hG) hg hg' htt⟩)
theorem i_vc_turn {k : Nat} {u : SX} {v : SY} (I : i_Rel k u v) (hk : k + 4 ≤ 2048) (v1 : Int32) (v2 : Int32) : wpX_turn (fun r u' => wpY_turn (fun r' v' => r' = r ∧ i_Rel (k + 4) u' v') v v1 (lw_bz v2)) u v1 (lw_bz v2) := by
  obtain ⟨s, E, f, t, f', t', hs, hG, hA, hA', hT, rfl, rfl⟩ := I
  rcases pk_ix v1 (n := 10) (by decide) with h | h | ⟨w, hw, rfl⟩
  · unfold wpX_turn
    dsimp only
    refine xw_iv_b (Or.inl h) (br_t rfl ?_)
    unfold wpY_turn
    dsimp only
    exact yw_bad_b (Or.inl h) (br_f (by decide) ⟨rfl, mg_R hs hG hA hA' hT⟩)
  · unfold wpX_turn
    dsimp only
    refine xw_iv_b (Or.inr h) (br_t rfl ?_)
    unfold wpY_turn
    dsimp only
    exact yw_bad_b (Or.inr h) (br_f (by decide) ⟨rfl, mg_R hs hG hA hA' hT⟩)
  · refine xw_turn_g hs hw (fun c => ?_) (fun c => ?_)
    · exact yw_turn_g hs hw (fun _ => ⟨rfl, mg_R (mg_rm_1 hs) hG hA hA' hT⟩) (fun d => absurd c d)
    · exact yw_turn_g hs hw (fun d => absurd d c) (fun _ => ⟨rfl, mg_R (mg_orlt hs (mg_p2lt hw)) hG hA hA' hT⟩)
theorem i_vc_circle {k : Nat} {u : SX} {v : SY} (I : i_Rel k u v) (hk : k + 4 ≤ 2048) (v1 : Int32) (v2 : Int32) : wpX_circle (fun r u' => wpY_circle (fun r' v' => r' = r ∧ i_Rel (k + 4) u' v') v v1 v2) u v1 v2 := by
  obtain ⟨s, E, f, t, f', t', hs, hG, hA, hA', hT, rfl, rfl⟩ := I
  have J : ((-1 : Int32) = -1 ∧ i_Rel (k + 4) (nI s, f, t) (nI s, f', t')) := ⟨rfl, mg_R hs hG hA hA' hT⟩
  have YB : (v1 < 0 ∨ nI 10 ≤ v1) ∨ (v2 < 0 ∨ nI 10 ≤ v2) ∨ (¬ (2 : Int32) ≤ v2 - v1) → wpY_circle (fun r' v' => r' = (-1 : Int32) ∧ i_Rel (k + 4) (nI s, f, t) v') (nI s, f', t') v1 v2 := by
    intro h
    unfold wpY_circle
    dsimp only
    refine yw_badC (fun a ha h1 => ?_) (fun _ => J)
    refine yw_badC (fun b hb h2 => ?_) (fun _ => J)
    rcases h with h | h | h
    · exact absurd h1 (mg_bad_n h a ha)
    · exact absurd h2 (mg_bad_n h b hb)
    · exact br_f h J
  unfold wpX_circle
  dsimp only
  refine xw_ivC (fun h => YB (Or.inl h)) (fun a ha h1 => ?_)
  refine xw_ivC (fun h => YB (Or.inr (Or.inl h))) (fun b hb h2 => ?_)
  refine br_c (fun c => ?_) (fun c => YB (Or.inr (Or.inr c)))
  have c' := c
  rw [h1, h2] at c'
  have hab : a + 2 ≤ b := (mg_c2 a ha b hb).1 c'
  clear YB
  subst h1
  subst h2
  refine xw_join hb ha (by omega) hA hG (fun f1 hf1 => ?_)
  have X := xw_ci_33 (post := fun r u' => wpY_circle (fun r' v' => r' = r ∧ i_Rel (k + 4) u' v') (nI s, f', t') (nI a) (nI b)) (o := nI s) (E := E) (c0 := mg_no ((E b).testBit a)) hab hb ?_ (b - a) a f1 t _ (by omega) (Nat.le_refl a) hf1 (mg_XI_0 hG ha hb (by omega))
  · rw [Nat.sub_self] at X
    exact ⟨_, X⟩
  · intro g tt E' hg hX htt
    unfold wpY_circle
    dsimp only
    refine yw_bad_g ha (br_t rfl ?_)
    refine yw_bad_g hb (br_t rfl (br_t c ?_))
    have Y := yw_ci_30 (post := fun r' v' => r' = nI (mg_no ((E b).testBit a) + mg_sm E a (b - a)) ∧ i_Rel (k + 4) (nI s, g, tt) v') (o := nI s) (t := t') (E := E) hab hb ?_ (b - a) a f' E (by omega) (Nat.le_refl a) hA' (mg_YI_0 hG)
    · rw [Nat.sub_self] at Y
      exact ⟨_, Y⟩
    · intro g' E'' hg' hb'
      refine ⟨by rw [Nat.add_comm], ?_⟩
      rw [mg_XY hX hb'] at hg'
      exact mg_R hs hX.1 hg hg' htt
theorem i_vc_clear {k : Nat} {u : SX} {v : SY} (I : i_Rel k u v) (hk : k + 4 ≤ 2048) : wpX_clear (fun u' => wpY_clear (fun v' => i_Rel (k + 4) u' v') v) u := by
  obtain ⟨s, E, f, t, f', t', hs, hG, hA, hA', hT, rfl, rfl⟩ := I
  unfold wpX_clear
  dsimp only
  refine ⟨11, xw_cl_2 (fun g tt hg htt => ?_) 10 0 f t rfl (fun i hi => absurd hi (Nat.not_lt_zero i))⟩
  unfold wpY_clear
  dsimp only
  exact ⟨11, yw_cl_9 (fun g' tt' hg' => mg_R (s := 1023) (by decide) mg_G_0 hg hg' htt) 10 0 f' t' rfl (fun i hi => absurd hi (Nat.not_lt_zero i))⟩
theorem i_vc_size {k : Nat} {u : SX} {v : SY} (I : i_Rel k u v) (hk : k + 4 ≤ 2048) : wpX_size (fun r => wpY_size (fun r' v' => r' = r ∧ i_Rel (k + 4) u v') v) u := by
  obtain ⟨s, E, f, t, f', t', hs, hG, hA, hA', hT, rfl, rfl⟩ := I
  unfold wpX_size
  dsimp only
  refine ⟨vp_in_nI hs (by decide), ?_⟩
  rw [mg_Tr hT hs]
  exact yw_size hs hA' hG (fun tt htt => ⟨rfl, mg_R hs hG hA hA' hT⟩)
theorem i_vc_missed {k : Nat} {u : SX} {v : SY} (I : i_Rel k u v) (hk : k + 4 ≤ 2048) : wpX_missed (fun r => wpY_missed (fun r' v' => r' = r ∧ i_Rel (k + 4) u v') v) u := by
  obtain ⟨s, E, f, t, f', t', hs, hG, hA, hA', hT, rfl, rfl⟩ := I
  unfold wpX_missed
  dsimp only
  refine xw_count hs ⟨vp_in_nI hs (by decide), ?_⟩
  rw [mg_Tr hT hs]
  unfold wpY_missed
  dsimp only
  refine yw_fill hA' hG (fun tt htt => ?_)
  dsimp only
  refine yw_count hs ⟨vp_in_nI hs (by decide), ?_⟩
  rw [mg_Tr htt hs]
  exact ⟨rfl, mg_R hs hG hA hA' hT⟩
theorem i_vc_part {k : Nat} {u : SX} {v : SY} (I : i_Rel k u v) (hk : k + 4 ≤ 2048) (v1 : Int32) : wpX_part (fun r => wpY_part (fun r' v' => r' = r ∧ i_Rel (k + 4) u v') v v1) u v1 := by
  obtain ⟨s, E, f, t, f', t', hs, hG, hA, hA', hT, rfl, rfl⟩ := I
  unfold wpX_part
  dsimp only
  refine xw_ivC (fun h => ?_) (fun w hw h => ?_)
  · unfold wpY_part
    dsimp only
    exact yw_bad_b h (br_f (by decide) ⟨rfl, mg_R hs hG hA hA' hT⟩)
  · subst h
    refine xw_fv hs hT (xw_partOf hs hw hA ?_)
    unfold wpY_part
    dsimp only
    refine yw_bad_g hw (br_t rfl (yw_fill hA' hG (fun tt htt => ?_)))
    exact yw_partOf hs hw hA' htt ⟨rfl, mg_R hs hG hA hA' hT⟩
theorem i_vc_members {k : Nat} {u : SX} {v : SY} (I : i_Rel k u v) (hk : k + 4 ≤ 2048) (v1 : Int32) : wpX_members (fun r => wpY_members (fun r' v' => r' = r ∧ i_Rel (k + 4) u v') v v1) u v1 := by
  obtain ⟨s, E, f, t, f', t', hs, hG, hA, hA', hT, rfl, rfl⟩ := I
  have K : ¬ v1 ≤ 0 → wX_members_17 (fun r => wpY_members (fun r' v' => r' = r ∧ i_Rel (k + 4) (nI s, f, t) v') (nI s, f', t') v1) v1 (nI s) f t := by
    intro h
    refine xw_mem_17 hs hA hT (yw_members hs hA' hG (fun tt htt => ⟨by rw [mg_my_p h], mg_R hs hG hA hA' hT⟩))
  unfold wpX_members
  dsimp only
  refine br_c (fun c => K (by rw [c]; decide)) (fun c1 => br_c (fun c => K (by rw [c]; decide)) (fun c2 => br_c (fun c => K (by rw [c]; decide)) (fun c3 => ?_)))
  exact yw_members hs hA' hG (fun tt htt => ⟨by rw [mg_my_n c1 c2 c3]; rfl, mg_R hs hG hA hA' hT⟩)
theorem i_vc_groups {k : Nat} {u : SX} {v : SY} (I : i_Rel k u v) (hk : k + 4 ≤ 2048) : wpX_groups (fun r => wpY_groups (fun r' v' => r' = r ∧ i_Rel (k + 4) u v') v) u := by
  obtain ⟨s, E, f, t, f', t', hs, hG, hA, hA', hT, rfl, rfl⟩ := I
  unfold wpX_groups
  dsimp only
  refine xw_fv hs hT ⟨11, xw_gr_12 hA hG 10 0 (mg_fr E s) 0 rfl (mg_fr_lt E s) ?_⟩
  unfold wpY_groups
  dsimp only
  refine yw_members hs hA' hG (fun tt htt => ?_)
  rw [mg_my_1 E s]
  refine ⟨11, yw_gr_10 (F := mg_fr E s) hA' hG 10 0 (mg_fr E s) 0 rfl (mg_fr_lt E s) (fun j hj => absurd hj (Nat.not_lt_zero j)) (fun _ h => h) (fun _ _ _ _ _ h => h) ?_⟩
  exact ⟨rfl, mg_R hs hG hA hA' hT⟩
theorem i_vc_partner {k : Nat} {u : SX} {v : SY} (I : i_Rel k u v) (hk : k + 4 ≤ 2048) (v1 : Int32) : wpX_partner (fun r => wpY_partner (fun r' v' => r' = r ∧ i_Rel (k + 4) u v') v v1) u v1 := by
  obtain ⟨s, E, f, t, f', t', hs, hG, hA, hA', hT, rfl, rfl⟩ := I
  unfold wpX_partner
  dsimp only
  refine xw_ivC (fun h => ?_) (fun w hw h => ?_)
  · unfold wpY_partner
    dsimp only
    exact yw_bad_b h (br_f (by decide) ⟨rfl, mg_R hs hG hA hA' hT⟩)
  · subst h
    refine ⟨11, xw_pr_16 hw hA hG hT 10 0 s rfl hs ?_⟩
    unfold wpY_partner
    dsimp only
    refine yw_bad_g hw (br_t rfl (yw_fill hA' hG (fun tt htt => ⟨11, ?_⟩)))
    exact yw_pr_21 hw hA' htt 10 0 s rfl hs ⟨rfl, mg_R hs hG hA hA' hT⟩
theorem i_vc_inSome {k : Nat} {u : SX} {v : SY} (I : i_Rel k u v) (hk : k + 4 ≤ 2048) (v1 : Int32) (v2 : Int32) : wpX_inSome (fun r => wpY_inSome (fun r' v' => r' = r ∧ i_Rel (k + 4) u v') v v1 v2) u v1 v2 := by
  obtain ⟨s, E, f, t, f', t', hs, hG, hA, hA', hT, rfl, rfl⟩ := I
  unfold wpX_inSome
  dsimp only
  rcases mg_pair v1 v2 with hb | ⟨a, b, ha, hb, hab, rfl, rfl⟩
  · refine xw_ip_b hb (br_t rfl ?_)
    unfold wpY_inSome
    dsimp only
    exact yw_bo_b hb (br_t rfl ⟨rfl, mg_R hs hG hA hA' hT⟩)
  · refine xw_ip_g ha hb hab (br_f (by decide) ?_)
    refine xw_ct hs ha hb hA (hG.1 a ha) hT (mg_bi_c (fun q => ?_) (fun q => ?_))
    · exact yw_is hs ha hb hab hA' hG (fun tt => ⟨mg_bi_f q, mg_R hs hG hA hA' hT⟩)
    · exact yw_is hs ha hb hab hA' hG (fun tt => ⟨mg_bi_t q, mg_R hs hG hA hA' hT⟩)
theorem i_vc_inAll {k : Nat} {u : SX} {v : SY} (I : i_Rel k u v) (hk : k + 4 ≤ 2048) (v1 : Int32) (v2 : Int32) : wpX_inAll (fun r => wpY_inAll (fun r' v' => r' = r ∧ i_Rel (k + 4) u v') v v1 v2) u v1 v2 := by
  obtain ⟨s, E, f, t, f', t', hs, hG, hA, hA', hT, rfl, rfl⟩ := I
  rcases mg_pair v1 v2 with hb | ⟨a, b, ha, hb, hab, rfl, rfl⟩
  · unfold wpX_inAll
    dsimp only
    refine xw_ip_b hb (br_t rfl ?_)
    unfold wpY_inAll
    dsimp only
    exact yw_bo_b hb (br_t rfl ⟨rfl, mg_R hs hG hA hA' hT⟩)
  · refine xw_inAll hs ha hb hab hA hG hT (fun c => ?_) (fun c => ?_)
    · exact yw_inAll hs ha hb hab hA' hG (fun _ g tt hg => ⟨rfl, mg_R hs hG hA hg hT⟩) (fun d => absurd c d)
    · exact yw_inAll hs ha hb hab hA' hG (fun d => absurd d c) (fun _ g tt hg => ⟨rfl, mg_R hs hG hA hg hT⟩)
theorem i_vc_helps {k : Nat} {u : SX} {v : SY} (I : i_Rel k u v) (hk : k + 4 ≤ 2048) (v1 : Int32) (v2 : Int32) : wpX_helps (fun r => wpY_helps (fun r' v' => r' = r ∧ i_Rel (k + 4) u v') v v1 v2) u v1 v2 := by
  obtain ⟨s, E, f, t, f', t', hs, hG, hA, hA', hT, rfl, rfl⟩ := I
  rcases mg_pair v1 v2 with hb | ⟨a, b, ha, hb, hab, rfl, rfl⟩
  · unfold wpX_helps
    dsimp only
    refine xw_ip_b hb (br_t rfl ?_)
    unfold wpY_helps
    dsimp only
    exact yw_bo_b hb (br_t rfl ⟨rfl, mg_R hs hG hA hA' hT⟩)
  · refine xw_helps hs ha hb hab hA hG hT ?_
    exact yw_helps hs ha hb hab hA' hG (fun tt => ⟨rfl, mg_R hs hG hA hA' hT⟩)
theorem i_vc_needed {k : Nat} {u : SX} {v : SY} (I : i_Rel k u v) (hk : k + 4 ≤ 2048) : wpX_needed (fun r => wpY_needed (fun r' v' => r' = r ∧ i_Rel (k + 4) u v') v) u := by
  obtain ⟨s, E, f, t, f', t', hs, hG, hA, hA', hT, rfl, rfl⟩ := I
  unfold wpX_needed
  dsimp only
  refine xw_fv hs hT (xw_count hs (xw_count (mg_fr_lt E s) ?_))
  unfold wpY_needed
  dsimp only
  refine yw_fill hA' hG (fun tt htt => ⟨11, yw_ne_8 hs htt ⟨?_, mg_R hs hG hA hA' hT⟩ 10 0 rfl⟩)
  have e := mg_need hs hG.2.1
  rw [pk_sub (by omega)]
  exact congrArg nI (by omega)
