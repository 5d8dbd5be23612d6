def mg_sd (s t : Nat) : Nat := s ^^^ (s &&& t)
theorem mg_sd_b (s t i : Nat) : (mg_sd s t).testBit i = (s.testBit i && !t.testBit i) := by
  unfold mg_sd
  rw [Nat.testBit_xor, Nat.testBit_and]
  cases s.testBit i <;> cases t.testBit i <;> rfl
theorem mg_sd_i {s t u : Nat} : (mg_sd s t).testBit u = true ↔ s.testBit u = true ∧ t.testBit u = false := by
  rw [mg_sd_b]
  cases s.testBit u <;> cases t.testBit u <;> decide
def mg_rm (s a : Nat) : Nat := mg_sd s (2 ^ a)
theorem mg_rm_b (s a i : Nat) : (mg_rm s a).testBit i = (s.testBit i && !decide (a = i)) := by
  unfold mg_rm
  rw [mg_sd_b, Nat.testBit_two_pow]
theorem mg_rm_i {s a u : Nat} : (mg_rm s a).testBit u = true ↔ s.testBit u = true ∧ u ≠ a := by
  rw [mg_rm_b, Bool.and_eq_true, Bool.not_eq_true', decide_eq_false_iff_not]
  exact ⟨fun h => ⟨h.1, fun e => h.2 e.symm⟩, fun h => ⟨h.1, fun e => h.2 e.symm⟩⟩
theorem mg_sub_le {s t : Nat} (h : ∀ i, s.testBit i = true → t.testBit i = true) : s ≤ t := by
  have e : s = t &&& s := by
    apply Nat.eq_of_testBit_eq
    intro i
    rw [Nat.testBit_and]
    cases hs : s.testBit i with
    | false => simp
    | true => simp [h i hs]
  calc s = t &&& s := e
    _ ≤ t := Nat.and_le_left
theorem mg_eq {s t : Nat} (h : ∀ i, s.testBit i = true ↔ t.testBit i = true) : s = t := by
  apply Nat.eq_of_testBit_eq
  intro i
  have := h i
  cases hs : s.testBit i <;> cases ht : t.testBit i
  · rfl
  · rw [hs, ht] at this; exact absurd (this.2 rfl) (by decide)
  · rw [hs, ht] at this; exact absurd (this.1 rfl) (by decide)
  · rfl
theorem mg_rm_le (s a : Nat) : mg_rm s a ≤ s := mg_sub_le (fun _ h => (mg_rm_i.1 h).1)
theorem mg_sd_le (s a : Nat) : mg_sd s a ≤ s := mg_sub_le (fun _ h => (mg_sd_i.1 h).1)
theorem mg_rm_lt {s a : Nat} (h : s.testBit a = true) : mg_rm s a < s := by
  rcases Nat.lt_or_eq_of_le (mg_rm_le s a) with g | g
  · exact g
  · exact absurd rfl ((mg_rm_i (s := s) (a := a) (u := a)).1 (by rw [g]; exact h)).2
theorem mg_rm_c (s a b : Nat) : mg_rm (mg_rm s a) b = mg_rm (mg_rm s b) a := by
  apply Nat.eq_of_testBit_eq
  intro i
  simp only [mg_rm_b]
  cases s.testBit i <;> cases decide (a = i) <;> cases decide (b = i) <;> rfl
theorem mg_rm_n {s a : Nat} (h : s.testBit a = false) : mg_rm s a = s := by
  apply mg_eq
  intro i
  rw [mg_rm_i]
  exact ⟨fun g => g.1, fun g => ⟨g, fun e => by rw [e, h] at g; exact absurd g (by decide)⟩⟩
theorem mg_bit_lt {s i : Nat} (hs : s < 1024) (h : s.testBit i = true) : i < 10 := by
  rcases Nat.lt_or_ge i 10 with g | g
  · exact g
  · have : s.testBit i = false := Nat.testBit_lt_two_pow (Nat.lt_of_lt_of_le hs (Nat.pow_le_pow_right (n := 2) (by decide) g))
    rw [this] at h
    exact absurd h (by decide)
theorem mg_lt {s : Nat} (h : ∀ i, s.testBit i = true → i < 10) : s < 1024 := by
  refine Nat.lt_pow_two_of_testBit (n := 10) s (fun i hi => ?_)
  cases hs : s.testBit i with
  | false => rfl
  | true => exact absurd (h i hs) (by omega)
theorem mg_p2lt {v : Nat} (h : v < 10) : 2 ^ v < 1024 := Nat.pow_lt_pow_right (a := 2) (by decide) h
theorem mg_orlt {a b : Nat} (ha : a < 1024) (hb : b < 1024) : a ||| b < 1024 := Nat.or_lt_two_pow (n := 10) ha hb
theorem mg_bt {n i : Nat} (hi : i < 32) : bt (nI n) i = n.testBit i := by
  show (BitVec.ofNat 32 n).getLsbD i = n.testBit i
  rw [BitVec.getLsbD_ofNat]
  simp [hi]
theorem mg_or (a b : Nat) : nI a ||| nI b = nI (a ||| b) := by
  apply b_ext
  intro i hi
  rw [b_or, mg_bt hi, mg_bt hi, mg_bt hi, Nat.testBit_or]
theorem mg_p2 {v : Nat} (hv : v < 10) : (1 : Int32) <<< (nI v &&& 31) = nI (2 ^ v) := (by decide +kernel : ∀ v, v < 10 → (1 : Int32) <<< (nI v &&& 31) = nI (2 ^ v)) v hv
theorem mg_sdI (s t : Nat) : nI s &&& (nI t ^^^ (-1)) = nI (mg_sd s t) := by
  apply b_ext
  intro i hi
  rw [b_and, b_xor, b_m1 i hi, mg_bt hi, mg_bt hi, mg_bt hi, mg_sd_b]
  cases s.testBit i <;> cases t.testBit i <;> rfl
theorem mg_rmI {v : Nat} (s : Nat) (hv : v < 10) : nI s &&& (((1 : Int32) <<< (nI v &&& 31)) ^^^ (-1)) = nI (mg_rm s v) := by
  rw [mg_p2 hv]
  exact mg_sdI s (2 ^ v)
theorem mg_adI {v : Nat} (s : Nat) (hv : v < 10) : nI s ||| ((1 : Int32) <<< (nI v &&& 31)) = nI (s ||| 2 ^ v) := by
  rw [mg_p2 hv, mg_or]
theorem mg_has {s v : Nat} (hs : s < 1024) (hv : v < 10) : (nI s >>> (nI v &&& 31)) &&& 1 = nI (s.testBit v).toNat := by
  rw [pk_shrN (by omega) _ v (s_l v (by omega))]
  show nI (s / 2 ^ v) &&& nI 1 = _
  rw [nx_and, Nat.and_one_is_mod, Nat.toNat_testBit]
theorem mg_has1 {s v : Nat} (hs : s < 1024) (hv : v < 10) : ((nI s >>> (nI v &&& 31)) &&& 1) = 1 ↔ s.testBit v = true := by
  rw [mg_has hs hv]
  cases s.testBit v with
  | false => exact ⟨fun e => absurd e (by decide), fun e => absurd e (by decide)⟩
  | true => exact ⟨fun _ => rfl, fun _ => rfl⟩
def mg_fs (c : Nat → Bool) : Nat → Nat → Nat
  | 0 => fun k => k
  | n + 1 => fun k => if c k = true then k else mg_fs c n (k + 1)
theorem mg_fs_t {c : Nat → Bool} {n k : Nat} (h : c k = true) : mg_fs c (n + 1) k = k := if_pos h
theorem mg_fs_f {c : Nat → Bool} {n k : Nat} (h : ¬ c k = true) : mg_fs c (n + 1) k = mg_fs c n (k + 1) := if_neg h
theorem mg_fs_s (c : Nat → Bool) : ∀ n k, (mg_fs c n k < k + n ∧ c (mg_fs c n k) = true ∧ k ≤ mg_fs c n k ∧ ∀ j, k ≤ j → j < mg_fs c n k → c j = false) ∨ (mg_fs c n k = k + n ∧ ∀ j, k ≤ j → j < k + n → c j = false) := by
  intro n
  induction n with
  | zero => exact fun k => Or.inr ⟨rfl, fun j h1 h2 => absurd h2 (by omega)⟩
  | succ n ih =>
    intro k
    by_cases h : c k = true
    · rw [mg_fs_t h]
      exact Or.inl ⟨by omega, h, Nat.le_refl k, fun j h1 h2 => absurd h2 (by omega)⟩
    · rw [mg_fs_f h]
      have hk : c k = false := by cases g : c k with
        | false => rfl
        | true => exact absurd g h
      have hj : ∀ j, k ≤ j → ¬ k + 1 ≤ j → c j = false := fun j h1 h2 => by
        have : j = k := by omega
        rw [this]; exact hk
      rcases ih (k + 1) with ⟨h1, h2, h3, h4⟩ | ⟨h1, h2⟩
      · refine Or.inl ⟨by omega, h2, by omega, fun j g1 g2 => ?_⟩
        by_cases q : k + 1 ≤ j
        · exact h4 j q g2
        · exact hj j g1 q
      · refine Or.inr ⟨by omega, fun j g1 g2 => ?_⟩
        by_cases q : k + 1 ≤ j
        · exact h2 j q (by omega)
        · exact hj j g1 q
theorem mg_fs_le (c : Nat → Bool) (n k : Nat) : mg_fs c n k ≤ k + n := by
  rcases mg_fs_s c n k with h | h
  · omega
  · omega
def mg_lo (s : Nat) : Nat := mg_fs (fun i => s.testBit i) 9 0
theorem mg_lo_s {s : Nat} (h0 : s ≠ 0) (hs : s < 1024) : s.testBit (mg_lo s) = true ∧ ∀ j, j < mg_lo s → s.testBit j = false := by
  rcases mg_fs_s (fun i => s.testBit i) 9 0 with ⟨h1, h2, h3, h4⟩ | ⟨h1, h2⟩
  · exact ⟨h2, fun j hj => h4 j (Nat.zero_le j) hj⟩
  · obtain ⟨i, hi⟩ := Nat.exists_testBit_of_ne_zero h0
    have h9 := mg_bit_lt hs hi
    have e : mg_lo s = 9 := by
      show mg_fs (fun i => s.testBit i) 9 0 = 9
      omega
    have hi9 : i = 9 := by
      rcases Nat.lt_or_ge i 9 with g | g
      · have := h2 i (Nat.zero_le i) (by omega)
        rw [show s.testBit i = false from this] at hi
        exact absurd hi (by decide)
      · omega
    rw [e]
    exact ⟨by rw [← hi9]; exact hi, fun j hj => h2 j (Nat.zero_le j) (by omega)⟩
theorem mg_lo_u {s v : Nat} (hs : s < 1024) (h : s.testBit v = true) (hl : ∀ j, j < v → s.testBit j = false) : mg_lo s = v := by
  have h0 : s ≠ 0 := by
    intro e
    rw [e, Nat.zero_testBit] at h
    exact absurd h (by decide)
  obtain ⟨h1, h2⟩ := mg_lo_s h0 hs
  rcases Nat.lt_trichotomy (mg_lo s) v with g | g | g
  · rw [hl _ g] at h1; exact absurd h1 (by decide)
  · exact g
  · rw [h2 _ g] at h; exact absurd h (by decide)
def mg_best (g : Nat → Nat) (e r : Nat) : Nat → Nat
  | 0 => g r
  | u + 1 => if r.testBit u = true ∧ e.testBit u = true ∧ mg_best g e r u < g (mg_rm r u) + 1 then g (mg_rm r u) + 1 else mg_best g e r u
theorem mg_best_t {g : Nat → Nat} {e r u : Nat} (h : r.testBit u = true ∧ e.testBit u = true ∧ mg_best g e r u < g (mg_rm r u) + 1) : mg_best g e r (u + 1) = g (mg_rm r u) + 1 := if_pos h
theorem mg_best_f {g : Nat → Nat} {e r u : Nat} (h : ¬ (r.testBit u = true ∧ e.testBit u = true ∧ mg_best g e r u < g (mg_rm r u) + 1)) : mg_best g e r (u + 1) = mg_best g e r u := if_neg h
theorem mg_best_c2 {g g' : Nat → Nat} {e e' r : Nat} (h0 : g r = g' r) (h1 : ∀ u, r.testBit u = true → g (mg_rm r u) = g' (mg_rm r u) ∧ e.testBit u = e'.testBit u) : ∀ k, mg_best g e r k = mg_best g' e' r k := by
  intro k
  induction k with
  | zero => exact h0
  | succ k ih =>
    by_cases hk : r.testBit k = true
    · obtain ⟨p, q⟩ := h1 k hk
      simp only [mg_best]
      rw [ih, p, q]
    · have n1 : ∀ (g : Nat → Nat) (e : Nat), mg_best g e r (k + 1) = mg_best g e r k := fun g e => if_neg (fun h => hk h.1)
      rw [n1, n1]
      exact ih
theorem mg_best_ge0 {g : Nat → Nat} {e r : Nat} : ∀ k, g r ≤ mg_best g e r k := by
  intro k
  induction k with
  | zero => exact Nat.le_refl _
  | succ k ih =>
    by_cases c : r.testBit k = true ∧ e.testBit k = true ∧ mg_best g e r k < g (mg_rm r k) + 1
    · rw [mg_best_t c]
      have := c.2.2
      omega
    · rw [mg_best_f c]
      exact ih
theorem mg_best_ge {g : Nat → Nat} {e r : Nat} : ∀ k u, u < k → r.testBit u = true → e.testBit u = true → g (mg_rm r u) + 1 ≤ mg_best g e r k := by
  intro k
  induction k with
  | zero => exact fun u hu => absurd hu (Nat.not_lt_zero u)
  | succ k ih =>
    intro u hu hr he
    by_cases c : r.testBit k = true ∧ e.testBit k = true ∧ mg_best g e r k < g (mg_rm r k) + 1
    · rw [mg_best_t c]
      rcases Nat.lt_or_eq_of_le (Nat.le_of_lt_succ hu) with h | h
      · have h1 := ih u h hr he
        have h2 := c.2.2
        omega
      · rw [h]
        exact Nat.le_refl _
    · rw [mg_best_f c]
      rcases Nat.lt_or_eq_of_le (Nat.le_of_lt_succ hu) with h | h
      · exact ih u h hr he
      · rw [h] at hr he ⊢
        exact Nat.le_of_not_lt (fun q => c ⟨hr, he, q⟩)
theorem mg_best_eq {g : Nat → Nat} {e r : Nat} : ∀ k, mg_best g e r k = g r ∨ ∃ u, u < k ∧ r.testBit u = true ∧ e.testBit u = true ∧ mg_best g e r k = g (mg_rm r u) + 1 := by
  intro k
  induction k with
  | zero => exact Or.inl rfl
  | succ k ih =>
    by_cases c : r.testBit k = true ∧ e.testBit k = true ∧ mg_best g e r k < g (mg_rm r k) + 1
    · rw [mg_best_t c]
      exact Or.inr ⟨k, Nat.lt_succ_self k, c.1, c.2.1, rfl⟩
    · rw [mg_best_f c]
      rcases ih with h | ⟨u, h1, h2⟩
      · exact Or.inl h
      · exact Or.inr ⟨u, Nat.lt_succ_of_lt h1, h2⟩
def mg_F (E : Nat → Nat) : Nat → Nat → Nat
  | 0 => fun _ => 0
  | n + 1 => fun s => if s = 0 then 0 else mg_best (mg_F E n) (E (mg_lo s)) (mg_rm s (mg_lo s)) 10
theorem mg_F_s (E : Nat → Nat) (n : Nat) {s : Nat} (h : ¬ s = 0) : mg_F E (n + 1) s = mg_best (mg_F E n) (E (mg_lo s)) (mg_rm s (mg_lo s)) 10 := if_neg h
theorem mg_F_0 (E : Nat → Nat) (n : Nat) : mg_F E n 0 = 0 := by
  cases n with
  | zero => rfl
  | succ n => rfl
theorem mg_F_i (E : Nat → Nat) : ∀ n m s, s < 1024 → s ≤ n → s ≤ m → mg_F E n s = mg_F E m s := by
  intro n
  induction n with
  | zero =>
    intro m s hs hn hm
    have : s = 0 := by omega
    rw [this, mg_F_0, mg_F_0]
  | succ n ih =>
    intro m s hs hn hm
    by_cases h0 : s = 0
    · rw [h0, mg_F_0, mg_F_0]
    · cases m with
      | zero => exact absurd hm (by omega)
      | succ m =>
        have hl := mg_rm_lt (mg_lo_s h0 hs).1
        rw [mg_F_s E n h0, mg_F_s E m h0]
        refine mg_best_c2 (ih m _ (by omega) (by omega) (by omega)) (fun u _ => ⟨?_, rfl⟩) 10
        have hu := mg_rm_le (mg_rm s (mg_lo s)) u
        exact ih m _ (by omega) (by omega) (by omega)
def mg_M (E : Nat → Nat) (s : Nat) : Nat := mg_F E s s
theorem mg_M_0 (E : Nat → Nat) : mg_M E 0 = 0 := rfl
theorem mg_M_s {E : Nat → Nat} {s : Nat} (h0 : ¬ s = 0) (hs : s < 1024) : mg_M E s = mg_best (mg_M E) (E (mg_lo s)) (mg_rm s (mg_lo s)) 10 := by
  have hl := mg_rm_lt (mg_lo_s h0 hs).1
  obtain ⟨n, hn⟩ : ∃ n, s = n + 1 := ⟨s - 1, by omega⟩
  have e : mg_M E s = mg_F E (n + 1) s := mg_F_i E s (n + 1) s hs (Nat.le_refl s) (by omega)
  rw [e, mg_F_s E n h0]
  have K : ∀ t, t ≤ mg_rm s (mg_lo s) → mg_F E n t = mg_M E t := fun t ht => mg_F_i E n t t (by omega) (by omega) (Nat.le_refl t)
  exact mg_best_c2 (K _ (Nat.le_refl _)) (fun u _ => ⟨K _ (mg_rm_le _ u), rfl⟩) 10
theorem mg_M_le (E : Nat → Nat) : ∀ s, s < 1024 → mg_M E s ≤ s := by
  intro s
  induction s using Nat.strongRecOn with
  | _ s ih =>
    intro hs
    by_cases h0 : s = 0
    · rw [h0, mg_M_0]
      exact Nat.le_refl 0
    · have hl := mg_rm_lt (mg_lo_s h0 hs).1
      rw [mg_M_s h0 hs]
      rcases mg_best_eq (g := mg_M E) (e := E (mg_lo s)) (r := mg_rm s (mg_lo s)) 10 with h | ⟨u, h1, h2, h3, h4⟩
      · rw [h]
        have := ih _ hl (by omega)
        omega
      · rw [h4]
        have hu := mg_rm_le (mg_rm s (mg_lo s)) u
        have := ih (mg_rm (mg_rm s (mg_lo s)) u) (by omega) (by omega)
        omega
