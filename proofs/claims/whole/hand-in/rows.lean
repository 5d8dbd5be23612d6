section
def bt (x : Int32) (i : Nat) : Bool := x.toBitVec.getLsbD i
theorem b_ext {x y : Int32} (h : ∀ i, i < 32 → bt x i = bt y i) : x = y := Int32.toBitVec_inj.mp (BitVec.eq_of_getLsbD_eq (fun i hi => h i hi))
theorem b_or (x y : Int32) (i : Nat) : bt (x ||| y) i = (bt x i || bt y i) := by unfold bt; rw [Int32.toBitVec_or, BitVec.getLsbD_or]
theorem b_and (x y : Int32) (i : Nat) : bt (x &&& y) i = (bt x i && bt y i) := by unfold bt; rw [Int32.toBitVec_and, BitVec.getLsbD_and]
theorem b_xor (x y : Int32) (i : Nat) : bt (x ^^^ y) i = (bt x i ^^ bt y i) := by unfold bt; rw [Int32.toBitVec_xor, BitVec.getLsbD_xor]
theorem b_big {x : Int32} {i : Nat} (h : 32 ≤ i) : bt x i = false := BitVec.getLsbD_of_ge _ _ h
theorem b_m1 : ∀ i, i < 32 → bt (-1) i = true := by decide +kernel
theorem b_0 (i : Nat) : bt 0 i = false := BitVec.getLsbD_zero
theorem s_l : ∀ n, n < 32 → ((nI n &&& 31).toBitVec.smod 32).toNat = n := by decide +kernel
theorem b_shl (n : Nat) (hn : n < 32) (x : Int32) {i : Nat} (hi : i < 32) : bt (x <<< (nI n &&& 31)) i = (decide (n ≤ i) && bt x (i - n)) := by
  unfold bt
  rw [Int32.toBitVec_shiftLeft]
  show (x.toBitVec <<< ((nI n &&& 31).toBitVec.smod 32).toNat).getLsbD i = _
  rw [s_l n hn, BitVec.getLsbD_shiftLeft]
  rcases Nat.lt_or_ge i n with h | h
  · simp [h, Nat.not_le.mpr h]
  · simp [hi, h, Nat.not_lt.mpr h]
theorem b_sshr (n : Nat) (hn : n < 32) (x : Int32) {i : Nat} (hi : i < 32) : bt (x >>> (nI n &&& 31)) i = if n + i < 32 then bt x (n + i) else bt x 31 := by
  unfold bt
  rw [Int32.toBitVec_shiftRight]
  show (x.toBitVec.sshiftRight ((nI n &&& 31).toBitVec.smod 32).toNat).getLsbD i = _
  rw [s_l n hn, BitVec.getLsbD_sshiftRight, BitVec.msb_eq_getLsbD_last]
  simp [hi]
theorem nx_and (a b : Nat) : nI a &&& nI b = nI (a &&& b) := by
  apply Int32.toBitVec_inj.1
  show BitVec.ofNat 32 a &&& BitVec.ofNat 32 b = BitVec.ofNat 32 (a &&& b)
  apply BitVec.eq_of_getLsbD_eq
  intro i hi
  simp [hi]
theorem nx_xor (a b : Nat) : nI a ^^^ nI b = nI (a ^^^ b) := by
  apply Int32.toBitVec_inj.1
  show BitVec.ofNat 32 a ^^^ BitVec.ofNat 32 b = BitVec.ofNat 32 (a ^^^ b)
  apply BitVec.eq_of_getLsbD_eq
  intro i hi
  simp [hi]
theorem pk_us {f : Nat → Int32} {k : Nat} {x : Int32} : upd f k x k = x := if_pos rfl
theorem pk_un {f : Nat → Int32} {k j : Nat} {x : Int32} (h : j ≠ k) : upd f k x j = f j := if_neg h
theorem pk_sub {a b : Nat} (h : b ≤ a) : nI a - nI b = nI (a - b) := by
  obtain ⟨c, rfl⟩ : ∃ c, a = c + b := ⟨a - b, by omega⟩
  rw [← nI_add, Int32.add_sub_cancel, Nat.add_sub_cancel]
theorem pk_mul (a b : Nat) : nI a * nI b = nI (a * b) := (Int32.ofNat_mul a b).symm
theorem pk_ix (x : Int32) {n : Nat} (hn : n < 2 ^ 31) : x < 0 ∨ nI n ≤ x ∨ ∃ j : Nat, j < n ∧ x = nI j := by
  by_cases h : x < 0
  · exact Or.inl h
  · obtain ⟨j, hj, rfl⟩ := nI_of h
    by_cases h2 : j < n
    · exact Or.inr (Or.inr ⟨j, h2, rfl⟩)
    · exact Or.inr (Or.inl (nI_le (by omega) hj))
theorem pk_le {x y : Int32} {A B : Prop} (a b : Nat) (f : a ≤ b → A) (g : b < a → B) (hx : x = nI a := by rfl) (hy : y = nI b := by rfl) (ha : a < 2 ^ 31 := by omega) (hb : b < 2 ^ 31 := by omega) : (x ≤ y → A) ∧ (¬ x ≤ y → B) := by
  subst hx hy
  rw [nI_leI ha hb]
  exact ⟨f, fun z => g (by omega)⟩
theorem pk_lt {x y : Int32} {A B : Prop} (a b : Nat) (f : a < b → A) (g : b ≤ a → B) (hx : x = nI a := by rfl) (hy : y = nI b := by rfl) (ha : a < 2 ^ 31 := by omega) (hb : b < 2 ^ 31 := by omega) : (x < y → A) ∧ (¬ x < y → B) := by
  subst hx hy
  rw [nI_ltI ha hb]
  exact ⟨f, fun z => g (by omega)⟩
theorem pk_eq {x y : Int32} {A B : Prop} (a b : Nat) (f : a = b → A) (g : a ≠ b → B) (hx : x = nI a := by rfl) (hy : y = nI b := by rfl) (ha : a < 2 ^ 31 := by omega) (hb : b < 2 ^ 31 := by omega) : (x = y → A) ∧ (¬ x = y → B) := by
  subst hx hy
  rw [nI_eq ha hb]
  exact ⟨f, g⟩
theorem pk_in {x : Int32} (n N : Nat) (h : n < N) (hx : x = nI n := by rfl) (hN : N < 2 ^ 31 := by omega) : vp_in x N := by
  subst hx
  exact vp_in_nI h hN
theorem pk_cl {x : Int32} (n : Nat) (hx : x = nI n := by rfl) (h : n < 2 ^ 31 := by omega) : x.toNatClampNeg = n := by
  subst hx
  exact nI_clamp h
theorem pk_tn {n : Nat} (h : n < 2 ^ 32) : (nI n).toBitVec.toNat = n := Nat.mod_eq_of_lt h
theorem pk_shl (a s : Int32) (k : Nat) (hs : (s.toBitVec.smod 32).toNat = k) : (a <<< s).toBitVec.toNat = a.toBitVec.toNat * 2 ^ k % 2 ^ 32 := by
  show (a.toBitVec <<< (s.toBitVec.smod 32).toNat).toNat = _
  rw [hs, BitVec.toNat_shiftLeft, Nat.shiftLeft_eq]
theorem pk_shlN {n : Nat} (s : Int32) (k : Nat) (hs : (s.toBitVec.smod 32).toNat = k) (h : n * 2 ^ k < 2 ^ 32) : nI n <<< s = nI (n * 2 ^ k) := by
  apply Int32.toBitVec_inj.mp
  apply BitVec.eq_of_toNat_eq
  have hn : n < 2 ^ 32 := Nat.lt_of_le_of_lt (Nat.le_mul_of_pos_right n (Nat.two_pow_pos k)) h
  rw [pk_shl _ _ k hs, pk_tn hn, pk_tn h, Nat.mod_eq_of_lt h]
theorem pk_shr (a s : Int32) (k : Nat) (hs : (s.toBitVec.smod 32).toNat = k) : (a >>> s).toInt = a.toInt >>> k := by
  show (a.toBitVec.sshiftRight (s.toBitVec.smod 32).toNat).toInt = _
  rw [hs, BitVec.toInt_sshiftRight]
  rfl
theorem pk_shrN {n : Nat} (h : n < 2 ^ 31) (s : Int32) (k : Nat) (hs : (s.toBitVec.smod 32).toNat = k) : nI n >>> s = nI (n / 2 ^ k) := by
  apply Int32.toInt_inj.mp
  have h2 : n / 2 ^ k ≤ n := Nat.div_le_self _ _
  rw [pk_shr _ _ k hs, nI_toInt h, nI_toInt (by omega), Int.shiftRight_eq_div_pow]
  rfl
theorem pk_loop {σ : Type} (W : Nat → Nat → σ → Prop) (I : Nat → σ → Prop) (e i0 : Nat) (s : σ) (hi : i0 ≤ e) (h0 : I i0 s) (hx : ∀ n s, I e s → W (n + 1) e s)
    (hs : ∀ n i s, i < e → I i s → (∀ s', I (i + 1) s' → W n (i + 1) s') → W (n + 1) i s) : ∃ n, W n i0 s :=
  ⟨e + 1, loop_i W I e hx hs (e + 1) i0 s hi (by omega) h0⟩
end
section
def mg_sd (s t : Nat) : Nat := s ^^^ (s &&& t)
theorem mg_sd_b (s t i : Nat) : (mg_sd s t).testBit i = (s.testBit i && !t.testBit i) := by
  unfold mg_sd
  rw [Nat.testBit_xor, Nat.testBit_and]
  cases s.testBit i <;> cases t.testBit i <;> rfl
theorem mg_sd_i {s t u : Nat} : (mg_sd s t).testBit u = true ↔ s.testBit u = true ∧ t.testBit u = false := by
  rw [mg_sd_b]
  cases s.testBit u <;> cases t.testBit u <;> decide
def mg_rm (s a : Nat) : Nat := mg_sd s (2 ^ a)
theorem mg_rm_b (s a i : Nat) : (mg_rm s a).testBit i = (s.testBit i && !decide (a = i)) := by
  unfold mg_rm
  rw [mg_sd_b, Nat.testBit_two_pow]
theorem mg_rm_i {s a u : Nat} : (mg_rm s a).testBit u = true ↔ s.testBit u = true ∧ u ≠ a := by
  rw [mg_rm_b, Bool.and_eq_true, Bool.not_eq_true', decide_eq_false_iff_not]
  exact ⟨fun h => ⟨h.1, fun e => h.2 e.symm⟩, fun h => ⟨h.1, fun e => h.2 e.symm⟩⟩
theorem mg_sub_le {s t : Nat} (h : ∀ i, s.testBit i = true → t.testBit i = true) : s ≤ t := by
  have e : s = t &&& s := by
    apply Nat.eq_of_testBit_eq
    intro i
    rw [Nat.testBit_and]
    cases hs : s.testBit i with
    | false => simp
    | true => simp [h i hs]
  calc s = t &&& s := e
    _ ≤ t := Nat.and_le_left
theorem mg_eq {s t : Nat} (h : ∀ i, s.testBit i = true ↔ t.testBit i = true) : s = t := by
  apply Nat.eq_of_testBit_eq
  intro i
  have := h i
  cases hs : s.testBit i <;> cases ht : t.testBit i
  · rfl
  · rw [hs, ht] at this; exact absurd (this.2 rfl) (by decide)
  · rw [hs, ht] at this; exact absurd (this.1 rfl) (by decide)
  · rfl
theorem mg_rm_le (s a : Nat) : mg_rm s a ≤ s := mg_sub_le (fun _ h => (mg_rm_i.1 h).1)
theorem mg_sd_le (s a : Nat) : mg_sd s a ≤ s := mg_sub_le (fun _ h => (mg_sd_i.1 h).1)
theorem mg_rm_lt {s a : Nat} (h : s.testBit a = true) : mg_rm s a < s := by
  rcases Nat.lt_or_eq_of_le (mg_rm_le s a) with g | g
  · exact g
  · exact absurd rfl ((mg_rm_i (s := s) (a := a) (u := a)).1 (by rw [g]; exact h)).2
theorem mg_rm_c (s a b : Nat) : mg_rm (mg_rm s a) b = mg_rm (mg_rm s b) a := by
  apply Nat.eq_of_testBit_eq
  intro i
  simp only [mg_rm_b]
  cases s.testBit i <;> cases decide (a = i) <;> cases decide (b = i) <;> rfl
theorem mg_rm_n {s a : Nat} (h : s.testBit a = false) : mg_rm s a = s := by
  apply mg_eq
  intro i
  rw [mg_rm_i]
  exact ⟨fun g => g.1, fun g => ⟨g, fun e => by rw [e, h] at g; exact absurd g (by decide)⟩⟩
theorem mg_bit_lt {s i : Nat} (hs : s < 1024) (h : s.testBit i = true) : i < 10 := by
  rcases Nat.lt_or_ge i 10 with g | g
  · exact g
  · have : s.testBit i = false := Nat.testBit_lt_two_pow (Nat.lt_of_lt_of_le hs (Nat.pow_le_pow_right (n := 2) (by decide) g))
    rw [this] at h
    exact absurd h (by decide)
theorem mg_lt {s : Nat} (h : ∀ i, s.testBit i = true → i < 10) : s < 1024 := by
  refine Nat.lt_pow_two_of_testBit (n := 10) s (fun i hi => ?_)
  cases hs : s.testBit i with
  | false => rfl
  | true => exact absurd (h i hs) (by omega)
theorem mg_p2lt {v : Nat} (h : v < 10) : 2 ^ v < 1024 := Nat.pow_lt_pow_right (a := 2) (by decide) h
theorem mg_orlt {a b : Nat} (ha : a < 1024) (hb : b < 1024) : a ||| b < 1024 := Nat.or_lt_two_pow (n := 10) ha hb
theorem mg_bt {n i : Nat} (hi : i < 32) : bt (nI n) i = n.testBit i := by
  show (BitVec.ofNat 32 n).getLsbD i = n.testBit i
  rw [BitVec.getLsbD_ofNat]
  simp [hi]
theorem mg_or (a b : Nat) : nI a ||| nI b = nI (a ||| b) := by
  apply b_ext
  intro i hi
  rw [b_or, mg_bt hi, mg_bt hi, mg_bt hi, Nat.testBit_or]
theorem mg_p2 {v : Nat} (hv : v < 10) : (1 : Int32) <<< (nI v &&& 31) = nI (2 ^ v) := (by decide +kernel : ∀ v, v < 10 → (1 : Int32) <<< (nI v &&& 31) = nI (2 ^ v)) v hv
theorem mg_sdI (s t : Nat) : nI s &&& (nI t ^^^ (-1)) = nI (mg_sd s t) := by
  apply b_ext
  intro i hi
  rw [b_and, b_xor, b_m1 i hi, mg_bt hi, mg_bt hi, mg_bt hi, mg_sd_b]
  cases s.testBit i <;> cases t.testBit i <;> rfl
theorem mg_rmI {v : Nat} (s : Nat) (hv : v < 10) : nI s &&& (((1 : Int32) <<< (nI v &&& 31)) ^^^ (-1)) = nI (mg_rm s v) := by
  rw [mg_p2 hv]
  exact mg_sdI s (2 ^ v)
theorem mg_adI {v : Nat} (s : Nat) (hv : v < 10) : nI s ||| ((1 : Int32) <<< (nI v &&& 31)) = nI (s ||| 2 ^ v) := by
  rw [mg_p2 hv, mg_or]
theorem mg_has {s v : Nat} (hs : s < 1024) (hv : v < 10) : (nI s >>> (nI v &&& 31)) &&& 1 = nI (s.testBit v).toNat := by
  rw [pk_shrN (by omega) _ v (s_l v (by omega))]
  show nI (s / 2 ^ v) &&& nI 1 = _
  rw [nx_and, Nat.and_one_is_mod, Nat.toNat_testBit]
theorem mg_has1 {s v : Nat} (hs : s < 1024) (hv : v < 10) : ((nI s >>> (nI v &&& 31)) &&& 1) = 1 ↔ s.testBit v = true := by
  rw [mg_has hs hv]
  cases s.testBit v with
  | false => exact ⟨fun e => absurd e (by decide), fun e => absurd e (by decide)⟩
  | true => exact ⟨fun _ => rfl, fun _ => rfl⟩
def mg_fs (c : Nat → Bool) : Nat → Nat → Nat
  | 0 => fun k => k
  | n + 1 => fun k => if c k = true then k else mg_fs c n (k + 1)
theorem mg_fs_t {c : Nat → Bool} {n k : Nat} (h : c k = true) : mg_fs c (n + 1) k = k := if_pos h
theorem mg_fs_f {c : Nat → Bool} {n k : Nat} (h : ¬ c k = true) : mg_fs c (n + 1) k = mg_fs c n (k + 1) := if_neg h
theorem mg_fs_s (c : Nat → Bool) : ∀ n k, (mg_fs c n k < k + n ∧ c (mg_fs c n k) = true ∧ k ≤ mg_fs c n k ∧ ∀ j, k ≤ j → j < mg_fs c n k → c j = false) ∨ (mg_fs c n k = k + n ∧ ∀ j, k ≤ j → j < k + n → c j = false) := by
  intro n
  induction n with
  | zero => exact fun k => Or.inr ⟨rfl, fun j h1 h2 => absurd h2 (by omega)⟩
  | succ n ih =>
    intro k
    by_cases h : c k = true
    · rw [mg_fs_t h]
      exact Or.inl ⟨by omega, h, Nat.le_refl k, fun j h1 h2 => absurd h2 (by omega)⟩
    · rw [mg_fs_f h]
      have hk : c k = false := by cases g : c k with
        | false => rfl
        | true => exact absurd g h
      have hj : ∀ j, k ≤ j → ¬ k + 1 ≤ j → c j = false := fun j h1 h2 => by
        have : j = k := by omega
        rw [this]; exact hk
      rcases ih (k + 1) with ⟨h1, h2, h3, h4⟩ | ⟨h1, h2⟩
      · refine Or.inl ⟨by omega, h2, by omega, fun j g1 g2 => ?_⟩
        by_cases q : k + 1 ≤ j
        · exact h4 j q g2
        · exact hj j g1 q
      · refine Or.inr ⟨by omega, fun j g1 g2 => ?_⟩
        by_cases q : k + 1 ≤ j
        · exact h2 j q (by omega)
        · exact hj j g1 q
theorem mg_fs_le (c : Nat → Bool) (n k : Nat) : mg_fs c n k ≤ k + n := by
  rcases mg_fs_s c n k with h | h
  · omega
  · omega
def mg_lo (s : Nat) : Nat := mg_fs (fun i => s.testBit i) 9 0
theorem mg_lo_s {s : Nat} (h0 : s ≠ 0) (hs : s < 1024) : s.testBit (mg_lo s) = true ∧ ∀ j, j < mg_lo s → s.testBit j = false := by
  rcases mg_fs_s (fun i => s.testBit i) 9 0 with ⟨h1, h2, h3, h4⟩ | ⟨h1, h2⟩
  · exact ⟨h2, fun j hj => h4 j (Nat.zero_le j) hj⟩
  · obtain ⟨i, hi⟩ := Nat.exists_testBit_of_ne_zero h0
    have h9 := mg_bit_lt hs hi
    have e : mg_lo s = 9 := by
      show mg_fs (fun i => s.testBit i) 9 0 = 9
      omega
    have hi9 : i = 9 := by
      rcases Nat.lt_or_ge i 9 with g | g
      · have := h2 i (Nat.zero_le i) (by omega)
        rw [show s.testBit i = false from this] at hi
        exact absurd hi (by decide)
      · omega
    rw [e]
    exact ⟨by rw [← hi9]; exact hi, fun j hj => h2 j (Nat.zero_le j) (by omega)⟩
theorem mg_lo_u {s v : Nat} (hs : s < 1024) (h : s.testBit v = true) (hl : ∀ j, j < v → s.testBit j = false) : mg_lo s = v := by
  have h0 : s ≠ 0 := by
    intro e
    rw [e, Nat.zero_testBit] at h
    exact absurd h (by decide)
  obtain ⟨h1, h2⟩ := mg_lo_s h0 hs
  rcases Nat.lt_trichotomy (mg_lo s) v with g | g | g
  · rw [hl _ g] at h1; exact absurd h1 (by decide)
  · exact g
  · rw [h2 _ g] at h; exact absurd h (by decide)
def mg_best (g : Nat → Nat) (e r : Nat) : Nat → Nat
  | 0 => g r
  | u + 1 => if r.testBit u = true ∧ e.testBit u = true ∧ mg_best g e r u < g (mg_rm r u) + 1 then g (mg_rm r u) + 1 else mg_best g e r u
theorem mg_best_t {g : Nat → Nat} {e r u : Nat} (h : r.testBit u = true ∧ e.testBit u = true ∧ mg_best g e r u < g (mg_rm r u) + 1) : mg_best g e r (u + 1) = g (mg_rm r u) + 1 := if_pos h
theorem mg_best_f {g : Nat → Nat} {e r u : Nat} (h : ¬ (r.testBit u = true ∧ e.testBit u = true ∧ mg_best g e r u < g (mg_rm r u) + 1)) : mg_best g e r (u + 1) = mg_best g e r u := if_neg h
theorem mg_best_c2 {g g' : Nat → Nat} {e e' r : Nat} (h0 : g r = g' r) (h1 : ∀ u, r.testBit u = true → g (mg_rm r u) = g' (mg_rm r u) ∧ e.testBit u = e'.testBit u) : ∀ k, mg_best g e r k = mg_best g' e' r k := by
  intro k
  induction k with
  | zero => exact h0
  | succ k ih =>
    by_cases hk : r.testBit k = true
    · obtain ⟨p, q⟩ := h1 k hk
      simp only [mg_best]
      rw [ih, p, q]
    · have n1 : ∀ (g : Nat → Nat) (e : Nat), mg_best g e r (k + 1) = mg_best g e r k := fun g e => if_neg (fun h => hk h.1)
      rw [n1, n1]
      exact ih
theorem mg_best_ge0 {g : Nat → Nat} {e r : Nat} : ∀ k, g r ≤ mg_best g e r k := by
  intro k
  induction k with
  | zero => exact Nat.le_refl _
  | succ k ih =>
    by_cases c : r.testBit k = true ∧ e.testBit k = true ∧ mg_best g e r k < g (mg_rm r k) + 1
    · rw [mg_best_t c]
      have := c.2.2
      omega
    · rw [mg_best_f c]
      exact ih
theorem mg_best_ge {g : Nat → Nat} {e r : Nat} : ∀ k u, u < k → r.testBit u = true → e.testBit u = true → g (mg_rm r u) + 1 ≤ mg_best g e r k := by
  intro k
  induction k with
  | zero => exact fun u hu => absurd hu (Nat.not_lt_zero u)
  | succ k ih =>
    intro u hu hr he
    by_cases c : r.testBit k = true ∧ e.testBit k = true ∧ mg_best g e r k < g (mg_rm r k) + 1
    · rw [mg_best_t c]
      rcases Nat.lt_or_eq_of_le (Nat.le_of_lt_succ hu) with h | h
      · have h1 := ih u h hr he
        have h2 := c.2.2
        omega
      · rw [h]
        exact Nat.le_refl _
    · rw [mg_best_f c]
      rcases Nat.lt_or_eq_of_le (Nat.le_of_lt_succ hu) with h | h
      · exact ih u h hr he
      · rw [h] at hr he ⊢
        exact Nat.le_of_not_lt (fun q => c ⟨hr, he, q⟩)
theorem mg_best_eq {g : Nat → Nat} {e r : Nat} : ∀ k, mg_best g e r k = g r ∨ ∃ u, u < k ∧ r.testBit u = true ∧ e.testBit u = true ∧ mg_best g e r k = g (mg_rm r u) + 1 := by
  intro k
  induction k with
  | zero => exact Or.inl rfl
  | succ k ih =>
    by_cases c : r.testBit k = true ∧ e.testBit k = true ∧ mg_best g e r k < g (mg_rm r k) + 1
    · rw [mg_best_t c]
      exact Or.inr ⟨k, Nat.lt_succ_self k, c.1, c.2.1, rfl⟩
    · rw [mg_best_f c]
      rcases ih with h | ⟨u, h1, h2⟩
      · exact Or.inl h
      · exact Or.inr ⟨u, Nat.lt_succ_of_lt h1, h2⟩
def mg_F (E : Nat → Nat) : Nat → Nat → Nat
  | 0 => fun _ => 0
  | n + 1 => fun s => if s = 0 then 0 else mg_best (mg_F E n) (E (mg_lo s)) (mg_rm s (mg_lo s)) 10
theorem mg_F_s (E : Nat → Nat) (n : Nat) {s : Nat} (h : ¬ s = 0) : mg_F E (n + 1) s = mg_best (mg_F E n) (E (mg_lo s)) (mg_rm s (mg_lo s)) 10 := if_neg h
theorem mg_F_0 (E : Nat → Nat) (n : Nat) : mg_F E n 0 = 0 := by
  cases n with
  | zero => rfl
  | succ n => rfl
theorem mg_F_i (E : Nat → Nat) : ∀ n m s, s < 1024 → s ≤ n → s ≤ m → mg_F E n s = mg_F E m s := by
  intro n
  induction n with
  | zero =>
    intro m s hs hn hm
    have : s = 0 := by omega
    rw [this, mg_F_0, mg_F_0]
  | succ n ih =>
    intro m s hs hn hm
    by_cases h0 : s = 0
    · rw [h0, mg_F_0, mg_F_0]
    · cases m with
      | zero => exact absurd hm (by omega)
      | succ m =>
        have hl := mg_rm_lt (mg_lo_s h0 hs).1
        rw [mg_F_s E n h0, mg_F_s E m h0]
        refine mg_best_c2 (ih m _ (by omega) (by omega) (by omega)) (fun u _ => ⟨?_, rfl⟩) 10
        have hu := mg_rm_le (mg_rm s (mg_lo s)) u
        exact ih m _ (by omega) (by omega) (by omega)
def mg_M (E : Nat → Nat) (s : Nat) : Nat := mg_F E s s
theorem mg_M_0 (E : Nat → Nat) : mg_M E 0 = 0 := rfl
theorem mg_M_s {E : Nat → Nat} {s : Nat} (h0 : ¬ s = 0) (hs : s < 1024) : mg_M E s = mg_best (mg_M E) (E (mg_lo s)) (mg_rm s (mg_lo s)) 10 := by
  have hl := mg_rm_lt (mg_lo_s h0 hs).1
  obtain ⟨n, hn⟩ : ∃ n, s = n + 1 := ⟨s - 1, by omega⟩
  have e : mg_M E s = mg_F E (n + 1) s := mg_F_i E s (n + 1) s hs (Nat.le_refl s) (by omega)
  rw [e, mg_F_s E n h0]
  have K : ∀ t, t ≤ mg_rm s (mg_lo s) → mg_F E n t = mg_M E t := fun t ht => mg_F_i E n t t (by omega) (by omega) (Nat.le_refl t)
  exact mg_best_c2 (K _ (Nat.le_refl _)) (fun u _ => ⟨K _ (mg_rm_le _ u), rfl⟩) 10
theorem mg_M_le (E : Nat → Nat) : ∀ s, s < 1024 → mg_M E s ≤ s := by
  intro s
  induction s using Nat.strongRecOn with
  | _ s ih =>
    intro hs
    by_cases h0 : s = 0
    · rw [h0, mg_M_0]
      exact Nat.le_refl 0
    · have hl := mg_rm_lt (mg_lo_s h0 hs).1
      rw [mg_M_s h0 hs]
      rcases mg_best_eq (g := mg_M E) (e := E (mg_lo s)) (r := mg_rm s (mg_lo s)) 10 with h | ⟨u, h1, h2, h3, h4⟩
      · rw [h]
        have := ih _ hl (by omega)
        omega
      · rw [h4]
        have hu := mg_rm_le (mg_rm s (mg_lo s)) u
        have := ih (mg_rm (mg_rm s (mg_lo s)) u) (by omega) (by omega)
        omega
end
section
abbrev mg_P (E : Nat → Nat) (s a : Nat) : Prop := mg_M E (mg_rm s a) ≤ mg_M E s ∧ (∀ u, (mg_rm s a).testBit u = true → (E a).testBit u = true → mg_M E (mg_rm (mg_rm s a) u) + 1 ≤ mg_M E s) ∧ (mg_M E s = mg_M E (mg_rm s a) ∨ ∃ u, (mg_rm s a).testBit u = true ∧ (E a).testBit u = true ∧ mg_M E s = mg_M E (mg_rm (mg_rm s a) u) + 1)
abbrev mg_sy (E : Nat → Nat) : Prop := ∀ a b, a < 10 → b < 10 → (E a).testBit b = (E b).testBit a
theorem mg_av0 {E : Nat → Nat} {s : Nat} (h0 : ¬ s = 0) (hs : s < 1024) : mg_P E s (mg_lo s) := by
  have e := mg_M_s (E := E) h0 hs
  refine ⟨?_, ?_, ?_⟩
  · rw [e]
    exact mg_best_ge0 10
  · intro u hu he
    rw [e]
    exact mg_best_ge 10 u (mg_bit_lt hs (mg_rm_i.1 hu).1) hu he
  · rcases mg_best_eq (g := mg_M E) (e := E (mg_lo s)) (r := mg_rm s (mg_lo s)) 10 with h | ⟨u, _, h1, h2, h3⟩
    · exact Or.inl (e.trans h)
    · exact Or.inr ⟨u, h1, h2, e.trans h3⟩
theorem mg_av {E : Nat → Nat} (sy : mg_sy E) : ∀ s, s < 1024 → ∀ a, s.testBit a = true → mg_P E s a := by
  intro s
  induction s using Nat.strongRecOn with
  | _ s ih =>
  intro hs a ha
  have h0 : ¬ s = 0 := by
    intro e
    rw [e, Nat.zero_testBit] at ha
    exact absurd ha (by decide)
  have L := mg_av0 (E := E) h0 hs
  have hv := (mg_lo_s h0 hs).1
  generalize mg_lo s = v at L hv
  by_cases hav : a = v
  · rw [hav]
    exact L
  obtain ⟨L1, L2, L3⟩ := L
  have I : ∀ t, t < s → ∀ b, t.testBit b = true → mg_P E t b := fun t ht b hb => ih t ht (by omega) b hb
  have ha10 := mg_bit_lt hs ha
  have hv10 := mg_bit_lt hs hv
  have hva : (mg_rm s v).testBit a = true := mg_rm_i.2 ⟨ha, hav⟩
  have hav' : (mg_rm s a).testBit v = true := mg_rm_i.2 ⟨hv, fun e => hav e.symm⟩
  have ltv : mg_rm s v < s := mg_rm_lt hv
  have lta : mg_rm s a < s := mg_rm_lt ha
  have c1 : mg_rm (mg_rm s a) v = mg_rm (mg_rm s v) a := mg_rm_c s a v
  have A1 : mg_M E (mg_rm s a) ≤ mg_M E s := by
    rcases (I _ lta v hav').2.2 with h | ⟨u, hu, he, h⟩
    · rw [h, c1]
      exact Nat.le_trans (I _ ltv a hva).1 L1
    · have hu1 := mg_rm_i.1 hu
      have hu2 := mg_rm_i.1 hu1.1
      have huv : (mg_rm s v).testBit u = true := mg_rm_i.2 ⟨hu2.1, hu1.2⟩
      have hx : (mg_rm (mg_rm s v) u).testBit a = true := mg_rm_i.2 ⟨hva, fun e => hu2.2 e.symm⟩
      have e : mg_rm (mg_rm (mg_rm s a) v) u = mg_rm (mg_rm (mg_rm s v) u) a := by rw [c1, mg_rm_c _ a u]
      rw [h, e]
      have q := (I _ (Nat.lt_of_le_of_lt (mg_rm_le _ u) ltv) a hx).1
      have q2 := L2 u huv he
      omega
  have A2 : ∀ u, (mg_rm s a).testBit u = true → (E a).testBit u = true → mg_M E (mg_rm (mg_rm s a) u) + 1 ≤ mg_M E s := by
    intro u hu he
    have hu1 := mg_rm_i.1 hu
    by_cases huv : u = v
    · rw [huv] at he ⊢
      rw [c1]
      exact L2 a hva (by rw [sy v a hv10 ha10]; exact he)
    · have hvau : (mg_rm (mg_rm s a) u).testBit v = true := mg_rm_i.2 ⟨hav', fun e => huv e.symm⟩
      have ltu : mg_rm (mg_rm s a) u < s := Nat.lt_of_le_of_lt (mg_rm_le _ u) lta
      have huv' : (mg_rm s v).testBit u = true := mg_rm_i.2 ⟨hu1.1, huv⟩
      have hua : (mg_rm (mg_rm s v) a).testBit u = true := mg_rm_i.2 ⟨huv', hu1.2⟩
      rcases (I _ ltu v hvau).2.2 with h | ⟨w, hw, hew, h⟩
      · have e : mg_rm (mg_rm (mg_rm s a) u) v = mg_rm (mg_rm (mg_rm s v) a) u := by rw [mg_rm_c _ u v, c1]
        rw [h, e]
        have q := (I _ ltv a hva).2.1 u hua he
        omega
      · have w1 := mg_rm_i.1 hw
        have w2 := mg_rm_i.1 w1.1
        have w3 := mg_rm_i.1 w2.1
        have hwv : (mg_rm s v).testBit w = true := mg_rm_i.2 ⟨w3.1, w1.2⟩
        have e : mg_rm (mg_rm (mg_rm (mg_rm s a) u) v) w = mg_rm (mg_rm (mg_rm (mg_rm s v) w) a) u := by rw [mg_rm_c _ u v, c1, mg_rm_c _ u w, mg_rm_c _ a w]
        have hx : (mg_rm (mg_rm s v) w).testBit a = true := mg_rm_i.2 ⟨hva, fun e => w3.2 e.symm⟩
        have hy : (mg_rm (mg_rm (mg_rm s v) w) a).testBit u = true := mg_rm_i.2 ⟨mg_rm_i.2 ⟨huv', fun e => w2.2 e.symm⟩, hu1.2⟩
        rw [h, e]
        have q := (I _ (Nat.lt_of_le_of_lt (mg_rm_le _ w) ltv) a hx).2.1 u hy he
        have q2 := L2 w hwv hew
        omega
  refine ⟨A1, A2, ?_⟩
  rcases L3 with h | ⟨w, hw, hew, h⟩
  · rcases (I _ ltv a hva).2.2 with g | ⟨u, hu, he, g⟩
    · left
      have q := (I _ lta v hav').1
      rw [c1] at q
      omega
    · right
      have u1 := mg_rm_i.1 hu
      have u2 := mg_rm_i.1 u1.1
      have hua : (mg_rm s a).testBit u = true := mg_rm_i.2 ⟨u2.1, u1.2⟩
      have hx : (mg_rm (mg_rm s a) u).testBit v = true := mg_rm_i.2 ⟨hav', fun e => u2.2 e.symm⟩
      have q := (I _ (Nat.lt_of_le_of_lt (mg_rm_le _ u) lta) v hx).1
      have e : mg_rm (mg_rm (mg_rm s a) u) v = mg_rm (mg_rm (mg_rm s v) a) u := by rw [mg_rm_c _ u v, c1]
      rw [e] at q
      have q2 := A2 u hua he
      exact ⟨u, hua, he, by omega⟩
  · have w1 := mg_rm_i.1 hw
    by_cases hwa : w = a
    · right
      refine ⟨v, hav', ?_, ?_⟩
      · rw [sy a v ha10 hv10, ← hwa]
        exact hew
      · rw [c1, ← hwa]
        exact h
    · have hxa : (mg_rm (mg_rm s v) w).testBit a = true := mg_rm_i.2 ⟨hva, fun e => hwa e.symm⟩
      have hwa' : (mg_rm s a).testBit w = true := mg_rm_i.2 ⟨w1.1, hwa⟩
      have hwav : (mg_rm (mg_rm s a) v).testBit w = true := mg_rm_i.2 ⟨hwa', w1.2⟩
      rcases (I _ (Nat.lt_of_le_of_lt (mg_rm_le _ w) ltv) a hxa).2.2 with g | ⟨u, hu, he, g⟩
      · left
        have q := (I _ lta v hav').2.1 w hwav hew
        have e : mg_rm (mg_rm (mg_rm s a) v) w = mg_rm (mg_rm (mg_rm s v) w) a := by rw [c1, mg_rm_c _ a w]
        rw [e] at q
        omega
      · right
        have u1 := mg_rm_i.1 hu
        have u2 := mg_rm_i.1 u1.1
        have u3 := mg_rm_i.1 u2.1
        have hua : (mg_rm s a).testBit u = true := mg_rm_i.2 ⟨u3.1, u1.2⟩
        have hxv : (mg_rm (mg_rm s a) u).testBit v = true := mg_rm_i.2 ⟨hav', fun e => u3.2 e.symm⟩
        have hxw : (mg_rm (mg_rm (mg_rm s a) u) v).testBit w = true := mg_rm_i.2 ⟨mg_rm_i.2 ⟨hwa', fun e => u2.2 e.symm⟩, w1.2⟩
        have q := (I _ (Nat.lt_of_le_of_lt (mg_rm_le _ u) lta) v hxv).2.1 w hxw hew
        have e : mg_rm (mg_rm (mg_rm (mg_rm s a) u) v) w = mg_rm (mg_rm (mg_rm (mg_rm s v) w) a) u := by rw [mg_rm_c _ u v, c1, mg_rm_c _ u w, mg_rm_c _ a w]
        rw [e] at q
        have q2 := A2 u hua he
        exact ⟨u, hua, he, by omega⟩
theorem mg_M_c {E E' : Nat → Nat} : ∀ s, s < 1024 → (∀ x y, s.testBit x = true → s.testBit y = true → (E x).testBit y = (E' x).testBit y) → mg_M E s = mg_M E' s := by
  intro s
  induction s using Nat.strongRecOn with
  | _ s ih =>
  intro hs h
  by_cases h0 : s = 0
  · rw [h0, mg_M_0, mg_M_0]
  · have hl := mg_rm_lt (mg_lo_s h0 hs).1
    rw [mg_M_s (E := E) h0 hs, mg_M_s (E := E') h0 hs]
    refine mg_best_c2 (ih _ hl (by omega) (fun x y hx hy => h x y (mg_rm_i.1 hx).1 (mg_rm_i.1 hy).1)) (fun u hu => ⟨?_, h _ _ (mg_lo_s h0 hs).1 (mg_rm_i.1 hu).1⟩) 10
    have hu' := mg_rm_le (mg_rm s (mg_lo s)) u
    exact ih _ (by omega) (by omega) (fun x y hx hy => h x y (mg_rm_i.1 (mg_rm_i.1 hx).1).1 (mg_rm_i.1 (mg_rm_i.1 hy).1).1)
theorem mg_inall {E E' : Nat → Nat} {s a b : Nat} (hs : s < 1024) (sy : mg_sy E) (sy' : mg_sy E') (ha : s.testBit a = true) (hb : s.testBit b = true) (hab : a ≠ b) (he : (E a).testBit b = true) (ir : (E a).testBit a = false) (hE : ∀ i, i ≠ a → i ≠ b → E' i = E i) (hEb : E' b = mg_rm (E b) a) (hEa : E' a = mg_rm (E a) b) : mg_M E' s < mg_M E s ↔ (mg_M E (mg_rm (mg_rm s a) b) + 1 = mg_M E s ∧ mg_M E (mg_rm s a) ≠ mg_M E s ∧ ∀ u, u < 10 → u ≠ b → ¬ (s.testBit u = true ∧ (E a).testBit u = true ∧ mg_M E (mg_rm (mg_rm s a) u) + 1 = mg_M E s)) := by
  have K : ∀ t, t < 1024 → t.testBit a = false → mg_M E' t = mg_M E t := by
    intro t ht hta
    refine mg_M_c t ht (fun x y hx hy => ?_)
    have xa : x ≠ a := fun e => by rw [e, hta] at hx; exact absurd hx (by decide)
    have ya : y ≠ a := fun e => by rw [e, hta] at hy; exact absurd hy (by decide)
    by_cases xb : x = b
    · rw [xb, hEb, mg_rm_b, decide_eq_false (fun e => ya e.symm)]
      simp
    · rw [hE x xa xb]
  have na : (mg_rm s a).testBit a = false := by
    rw [mg_rm_b]
    simp
  have na2 : ∀ u, (mg_rm (mg_rm s a) u).testBit a = false := by
    intro u
    rw [mg_rm_b, na]
    rfl
  have l1 : mg_rm s a < 1024 := Nat.lt_of_le_of_lt (mg_rm_le s a) hs
  have l2 : ∀ u, mg_rm (mg_rm s a) u < 1024 := fun u => Nat.lt_of_le_of_lt (mg_rm_le _ u) l1
  have k1 := K _ l1 na
  have k2 : ∀ u, mg_M E' (mg_rm (mg_rm s a) u) = mg_M E (mg_rm (mg_rm s a) u) := fun u => K _ (l2 u) (na2 u)
  obtain ⟨p1, p2, p3⟩ := mg_av sy s hs a ha
  obtain ⟨q1, q2, q3⟩ := mg_av sy' s hs a ha
  constructor
  · intro hlt
    have r1 : mg_M E (mg_rm s a) ≠ mg_M E s := by omega
    have r2 : ∀ u, u < 10 → u ≠ b → ¬ (s.testBit u = true ∧ (E a).testBit u = true ∧ mg_M E (mg_rm (mg_rm s a) u) + 1 = mg_M E s) := by
      rintro u hu hub ⟨h1, h2, h3⟩
      have hua : u ≠ a := fun e => by rw [e, ir] at h2; exact absurd h2 (by decide)
      have := q2 u (mg_rm_i.2 ⟨h1, hua⟩) (by rw [hEa]; exact mg_rm_i.2 ⟨h2, hub⟩)
      rw [k2] at this
      omega
    refine ⟨?_, r1, r2⟩
    rcases p3 with h | ⟨u, h1, h2, h3⟩
    · exact absurd h.symm r1
    · by_cases hub : u = b
      · rw [hub] at h3
        exact h3.symm
      · exact absurd ⟨(mg_rm_i.1 h1).1, h2, h3.symm⟩ (r2 u (mg_bit_lt hs (mg_rm_i.1 h1).1) hub)
  · rintro ⟨r0, r1, r2⟩
    rcases q3 with h | ⟨u, h1, h2, h3⟩
    · omega
    · rw [hEa] at h2
      obtain ⟨h2, hub⟩ := mg_rm_i.1 h2
      have g1 := p2 u h1 h2
      have g2 := r2 u (mg_bit_lt hs (mg_rm_i.1 h1).1) hub
      rw [k2] at h3
      have g3 : mg_M E (mg_rm (mg_rm s a) u) + 1 ≠ mg_M E s := fun e => g2 ⟨(mg_rm_i.1 h1).1, h2, e⟩
      omega
def mg_cn (E : Nat → Nat) (l w u : Nat) : Bool := l.testBit w && l.testBit u && (E w).testBit u && decide (mg_M E (mg_rm (mg_rm l w) u) + 1 = mg_M E l)
theorem mg_cn_i {E : Nat → Nat} {l w u : Nat} : mg_cn E l w u = true ↔ l.testBit w = true ∧ l.testBit u = true ∧ (E w).testBit u = true ∧ mg_M E (mg_rm (mg_rm l w) u) + 1 = mg_M E l := by
  unfold mg_cn
  rw [Bool.and_eq_true, Bool.and_eq_true, Bool.and_eq_true, decide_eq_true_iff]
  exact ⟨fun h => ⟨h.1.1.1, h.1.1.2, h.1.2, h.2⟩, fun h => ⟨⟨⟨h.1, h.2.1⟩, h.2.2.1⟩, h.2.2.2⟩⟩
def mg_fp (E : Nat → Nat) (l w : Nat) : Nat := mg_fs (fun u => mg_cn E l w u) 10 0
theorem mg_fp_le (E : Nat → Nat) (l w : Nat) : mg_fp E l w ≤ 10 := by
  have := mg_fs_le (fun u => mg_cn E l w u) 10 0
  show mg_fs _ _ _ ≤ 10
  omega
theorem mg_fp_c {E : Nat → Nat} {l w : Nat} (h : mg_fp E l w < 10) : mg_cn E l w (mg_fp E l w) = true := by
  have := mg_fs_s (fun u => mg_cn E l w u) 10 0
  unfold mg_fp at h ⊢
  rcases this with h1 | h1
  · exact h1.2.1
  · omega
theorem mg_fp_n {E : Nat → Nat} {l w : Nat} (h : l.testBit w = false) : mg_fp E l w = 10 := by
  rcases Nat.lt_or_eq_of_le (mg_fp_le E l w) with g | g
  · have := (mg_cn_i.1 (mg_fp_c g)).1
    rw [h] at this
    exact absurd this (by decide)
  · exact g
def mg_pt (E : Nat → Nat) (v : Nat) : Nat → Nat → Nat → Nat
  | 0 => fun _ _ => 10
  | n + 1 => fun w l => if w = v ∧ mg_fp E l w < 10 then mg_fp E l w else if mg_fp E l w = v then w else mg_pt E v n (w + 1) (mg_rm (mg_rm l w) (mg_fp E l w))
theorem mg_pt_1 {E : Nat → Nat} {v n w l : Nat} (h : w = v ∧ mg_fp E l w < 10) : mg_pt E v (n + 1) w l = mg_fp E l w := if_pos h
theorem mg_pt_2 {E : Nat → Nat} {v n w l : Nat} (h : ¬ (w = v ∧ mg_fp E l w < 10)) (h2 : mg_fp E l w = v) : mg_pt E v (n + 1) w l = w := (if_neg h).trans (if_pos h2)
theorem mg_pt_3 {E : Nat → Nat} {v n w l : Nat} (h : ¬ (w = v ∧ mg_fp E l w < 10)) (h2 : ¬ mg_fp E l w = v) : mg_pt E v (n + 1) w l = mg_pt E v n (w + 1) (mg_rm (mg_rm l w) (mg_fp E l w)) := (if_neg h).trans (if_neg h2)
theorem mg_pt_t {E : Nat → Nat} {v : Nat} (hv : v < 10) : ∀ n w l, v < w → l.testBit v = false → mg_pt E v n w l = 10 := by
  intro n
  induction n with
  | zero => exact fun w l _ _ => rfl
  | succ n ih =>
    intro w l hw hl
    have h2 : ¬ mg_fp E l w = v := by
      intro e
      have := (mg_cn_i.1 (mg_fp_c (E := E) (l := l) (w := w) (by omega))).2.1
      rw [e, hl] at this
      exact absurd this (by decide)
    rw [mg_pt_3 (fun h => absurd h.1 (by omega)) h2]
    refine ih _ _ (by omega) ?_
    rw [mg_rm_b, mg_rm_b, hl]
    rfl
theorem mg_pt_le {E : Nat → Nat} {v : Nat} : ∀ n w l, w + n ≤ 10 → mg_pt E v n w l ≤ 10 := by
  intro n
  induction n with
  | zero => exact fun w l _ => Nat.le_refl 10
  | succ n ih =>
    intro w l hw
    by_cases h : w = v ∧ mg_fp E l w < 10
    · rw [mg_pt_1 h]
      omega
    · by_cases h2 : mg_fp E l w = v
      · rw [mg_pt_2 h h2]
        omega
      · rw [mg_pt_3 h h2]
        exact ih _ _ (by omega)
end
section
def mg_set (p : Nat → Bool) : Nat → Nat
  | 0 => 0
  | k + 1 => if p k = true then mg_set p k ||| 2 ^ k else mg_set p k
theorem mg_set_t {p : Nat → Bool} {k : Nat} (h : p k = true) : mg_set p (k + 1) = mg_set p k ||| 2 ^ k := if_pos h
theorem mg_set_f {p : Nat → Bool} {k : Nat} (h : ¬ p k = true) : mg_set p (k + 1) = mg_set p k := if_neg h
theorem mg_set_i {p : Nat → Bool} {i : Nat} : ∀ {k : Nat}, (mg_set p k).testBit i = true ↔ i < k ∧ p i = true := by
  intro k
  induction k with
  | zero =>
    show (0 : Nat).testBit i = true ↔ _
    rw [Nat.zero_testBit]
    exact ⟨fun h => absurd h (by decide), fun h => absurd h.1 (by omega)⟩
  | succ k ih =>
    by_cases h : p k = true
    · rw [mg_set_t h, Nat.testBit_or, Bool.or_eq_true, ih, Nat.testBit_two_pow, decide_eq_true_iff]
      constructor
      · rintro (⟨a, b⟩ | e)
        · exact ⟨by omega, b⟩
        · rw [← e]
          exact ⟨by omega, h⟩
      · rintro ⟨a, b⟩
        rcases Nat.lt_or_eq_of_le (Nat.le_of_lt_succ a) with g | g
        · exact Or.inl ⟨g, b⟩
        · exact Or.inr g.symm
    · rw [mg_set_f h, ih]
      constructor
      · rintro ⟨a, b⟩
        exact ⟨by omega, b⟩
      · rintro ⟨a, b⟩
        rcases Nat.lt_or_eq_of_le (Nat.le_of_lt_succ a) with g | g
        · exact ⟨g, b⟩
        · rw [g] at b
          exact absurd b h
theorem mg_set_lt {p : Nat → Bool} {k : Nat} (hk : k ≤ 10) : mg_set p k < 1024 := mg_lt (fun i h => by have := mg_set_i.1 h; omega)
theorem mg_set_c {p q : Nat → Bool} : ∀ k, (∀ i, i < k → p i = q i) → mg_set p k = mg_set q k := by
  intro k h
  apply mg_eq
  intro i
  rw [mg_set_i, mg_set_i]
  exact ⟨fun g => ⟨g.1, by rw [← h i g.1]; exact g.2⟩, fun g => ⟨g.1, by rw [h i g.1]; exact g.2⟩⟩
def mg_ct (p : Nat → Bool) : Nat → Nat
  | 0 => 0
  | k + 1 => mg_ct p k + (p k).toNat
theorem mg_ct_le (p : Nat → Bool) : ∀ k, mg_ct p k ≤ k := by
  intro k
  induction k with
  | zero => exact Nat.le_refl 0
  | succ k ih =>
    have : (p k).toNat ≤ 1 := by cases p k <;> decide
    show mg_ct p k + (p k).toNat ≤ k + 1
    omega
theorem mg_ct_mono {p q : Nat → Bool} : ∀ k, (∀ i, i < k → p i = true → q i = true) → mg_ct p k ≤ mg_ct q k := by
  intro k
  induction k with
  | zero => exact fun _ => Nat.le_refl 0
  | succ k ih =>
    intro h
    have h1 := ih (fun i hi => h i (by omega))
    have h2 : (p k).toNat ≤ (q k).toNat := by
      have := h k (by omega)
      cases hp : p k with
      | false => exact Nat.zero_le _
      | true => rw [this hp]; exact Nat.le_refl _
    show mg_ct p k + (p k).toNat ≤ mg_ct q k + (q k).toNat
    omega
theorem mg_ct_lt {p q : Nat → Bool} {j : Nat} : ∀ k, j < k → (∀ i, i < k → p i = true → q i = true) → p j = false → q j = true → mg_ct p k < mg_ct q k := by
  intro k
  induction k with
  | zero => exact fun h => absurd h (Nat.not_lt_zero j)
  | succ k ih =>
    intro hj h h1 h2
    show mg_ct p k + (p k).toNat < mg_ct q k + (q k).toNat
    rcases Nat.lt_or_eq_of_le (Nat.le_of_lt_succ hj) with g | g
    · have g1 := ih g (fun i hi => h i (by omega)) h1 h2
      have g2 : (p k).toNat ≤ (q k).toNat := by
        have := h k (by omega)
        cases hp : p k with
        | false => exact Nat.zero_le _
        | true => rw [this hp]; exact Nat.le_refl _
      omega
    · have g1 := mg_ct_mono k (fun i hi => h i (by omega))
      rw [← g, h1, h2]
      rw [← g] at g1
      show mg_ct p j + 0 < mg_ct q j + 1
      omega
theorem mg_ct_add {p q r : Nat → Bool} : ∀ k, (∀ i, i < k → (p i).toNat = (q i).toNat + (r i).toNat) → mg_ct p k = mg_ct q k + mg_ct r k := by
  intro k
  induction k with
  | zero => exact fun _ => rfl
  | succ k ih =>
    intro h
    have h1 := ih (fun i hi => h i (by omega))
    have h2 := h k (by omega)
    show mg_ct p k + (p k).toNat = mg_ct q k + (q k).toNat + (mg_ct r k + (r k).toNat)
    omega
abbrev mg_cd (g : Nat) : Nat := mg_ct (fun i => g.testBit i) 10
def mg_fb (E : Nat → Nat) (s v : Nat) : Bool := s.testBit v && decide (mg_M E (mg_rm s v) = mg_M E s)
theorem mg_fb_i {E : Nat → Nat} {s v : Nat} : mg_fb E s v = true ↔ s.testBit v = true ∧ mg_M E (mg_rm s v) = mg_M E s := by
  unfold mg_fb
  rw [Bool.and_eq_true, decide_eq_true_iff]
def mg_fr (E : Nat → Nat) (s : Nat) : Nat := mg_set (mg_fb E s) 10
theorem mg_fr_i {E : Nat → Nat} {s v : Nat} : (mg_fr E s).testBit v = true ↔ v < 10 ∧ s.testBit v = true ∧ mg_M E (mg_rm s v) = mg_M E s := by
  unfold mg_fr
  rw [mg_set_i, mg_fb_i]
theorem mg_fr_lt (E : Nat → Nat) (s : Nat) : mg_fr E s < 1024 := mg_set_lt (Nat.le_refl 10)
def mg_nd (E : Nat → Nat) (s v : Nat) : Bool := s.testBit v && decide (mg_M E (mg_rm s v) < mg_M E s)
theorem mg_nd_i {E : Nat → Nat} {s v : Nat} : mg_nd E s v = true ↔ s.testBit v = true ∧ mg_M E (mg_rm s v) < mg_M E s := by
  unfold mg_nd
  rw [Bool.and_eq_true, decide_eq_true_iff]
theorem mg_need {E : Nat → Nat} {s : Nat} (hs : s < 1024) (sy : mg_sy E) : mg_cd s = mg_cd (mg_fr E s) + mg_ct (mg_nd E s) 10 := by
  refine mg_ct_add 10 (fun v hv => ?_)
  cases h : s.testBit v with
  | false =>
    have h1 : (mg_fr E s).testBit v = false := by
      cases g : (mg_fr E s).testBit v with
      | false => rfl
      | true => rw [(mg_fr_i.1 g).2.1] at h; exact absurd h (by decide)
    have h2 : mg_nd E s v = false := by
      cases g : mg_nd E s v with
      | false => rfl
      | true => rw [(mg_nd_i.1 g).1] at h; exact absurd h (by decide)
    rw [h1, h2]
    rfl
  | true =>
    have p1 := (mg_av sy s hs v h).1
    rcases Nat.lt_or_eq_of_le p1 with g | g
    · have h1 : (mg_fr E s).testBit v = false := by
        cases q : (mg_fr E s).testBit v with
        | false => rfl
        | true => have := (mg_fr_i.1 q).2.2; omega
      rw [h1, mg_nd_i.2 ⟨h, g⟩]
      rfl
    · have h2 : mg_nd E s v = false := by
        cases q : mg_nd E s v with
        | false => rfl
        | true => have := (mg_nd_i.1 q).2; omega
      rw [mg_fr_i.2 ⟨hv, h, g⟩, h2]
      rfl
def mg_bd (E : Nat → Nat) (s v u : Nat) : Bool := s.testBit u && (E v).testBit u && decide (mg_M E (mg_rm s u) = mg_M E s)
theorem mg_bd_i {E : Nat → Nat} {s v u : Nat} : mg_bd E s v u = true ↔ (s.testBit u = true ∧ (E v).testBit u = true) ∧ mg_M E (mg_rm s u) = mg_M E s := by
  unfold mg_bd
  rw [Bool.and_eq_true, Bool.and_eq_true, decide_eq_true_iff]
def mg_po (E : Nat → Nat) (s v : Nat) : Nat := if s.testBit v = true then (if mg_M E (mg_rm s v) = mg_M E s then 1 else if mg_fs (mg_bd E s v) 10 0 < 10 then 2 else 3) else 0
theorem mg_po_le (E : Nat → Nat) (s v : Nat) : mg_po E s v ≤ 3 := by
  unfold mg_po
  by_cases h1 : s.testBit v = true
  · rw [if_pos h1]
    by_cases h2 : mg_M E (mg_rm s v) = mg_M E s
    · rw [if_pos h2]; decide
    · rw [if_neg h2]
      by_cases h3 : mg_fs (mg_bd E s v) 10 0 < 10
      · rw [if_pos h3]; decide
      · rw [if_neg h3]; decide
  · rw [if_neg h1]; decide
theorem mg_po_x {E : Nat → Nat} {s v : Nat} : E v &&& mg_fr E s = 0 ↔ ¬ mg_fs (mg_bd E s v) 10 0 < 10 := by
  constructor
  · intro h c
    rcases mg_fs_s (mg_bd E s v) 10 0 with g | g
    · have := mg_bd_i.1 g.2.1
      have e : (E v &&& mg_fr E s).testBit (mg_fs (mg_bd E s v) 10 0) = true := by
        rw [Nat.testBit_and, this.1.2, mg_fr_i.2 ⟨c, this.1.1, this.2⟩]
        rfl
      rw [h, Nat.zero_testBit] at e
      exact absurd e (by decide)
    · omega
  · intro h
    apply mg_eq
    intro i
    rw [Nat.testBit_and, Bool.and_eq_true, mg_fr_i, Nat.zero_testBit]
    constructor
    · rintro ⟨h1, h2, h3, h4⟩
      rcases mg_fs_s (mg_bd E s v) 10 0 with g | g
      · exact absurd (by have := g.1; omega) h
      · have := g.2 i (Nat.zero_le i) (by omega)
        rw [mg_bd_i.2 ⟨⟨h3, h1⟩, h4⟩] at this
        exact absurd this (by decide)
    · intro h
      exact absurd h (by decide)
def mg_nb (E : Nat → Nat) (s : Nat) : Nat → Nat
  | 0 => 0
  | k + 1 => if s.testBit k = true then mg_nb E s k ||| E k else mg_nb E s k
theorem mg_nb_t {E : Nat → Nat} {s k : Nat} (h : s.testBit k = true) : mg_nb E s (k + 1) = mg_nb E s k ||| E k := if_pos h
theorem mg_nb_f {E : Nat → Nat} {s k : Nat} (h : ¬ s.testBit k = true) : mg_nb E s (k + 1) = mg_nb E s k := if_neg h
theorem mg_nb_i {E : Nat → Nat} {s i : Nat} : ∀ {k : Nat}, (mg_nb E s k).testBit i = true ↔ ∃ v, v < k ∧ s.testBit v = true ∧ (E v).testBit i = true := by
  intro k
  induction k with
  | zero =>
    show (0 : Nat).testBit i = true ↔ _
    rw [Nat.zero_testBit]
    exact ⟨fun h => absurd h (by decide), fun ⟨v, h, _⟩ => absurd h (by omega)⟩
  | succ k ih =>
    by_cases h : s.testBit k = true
    · rw [mg_nb_t h, Nat.testBit_or, Bool.or_eq_true, ih]
      constructor
      · rintro (⟨v, a, b⟩ | e)
        · exact ⟨v, by omega, b⟩
        · exact ⟨k, by omega, h, e⟩
      · rintro ⟨v, a, b, c⟩
        rcases Nat.lt_or_eq_of_le (Nat.le_of_lt_succ a) with g | g
        · exact Or.inl ⟨v, g, b, c⟩
        · rw [g] at c
          exact Or.inr c
    · rw [mg_nb_f h, ih]
      constructor
      · rintro ⟨v, a, b⟩
        exact ⟨v, by omega, b⟩
      · rintro ⟨v, a, b, c⟩
        rcases Nat.lt_or_eq_of_le (Nat.le_of_lt_succ a) with g | g
        · exact ⟨v, g, b, c⟩
        · rw [g] at b
          exact absurd b h
theorem mg_nb_lt {E : Nat → Nat} {s : Nat} (hE : ∀ a, a < 10 → E a < 1024) {k : Nat} (hk : k ≤ 10) : mg_nb E s k < 1024 := mg_lt (fun i h => by
  obtain ⟨v, h1, h2, h3⟩ := mg_nb_i.1 h
  exact mg_bit_lt (hE v (by omega)) h3)
def mg_st (E : Nat → Nat) (d g : Nat) : Nat := g ||| (mg_nb E g 10 &&& d)
def mg_it (E : Nat → Nat) (d : Nat) : Nat → Nat → Nat
  | 0 => fun g => g
  | n + 1 => fun g => mg_it E d n (mg_st E d g)
def mg_pa (E : Nat → Nat) (d g : Nat) : Nat → Nat
  | 0 => g
  | k + 1 => if (mg_pa E d g k).testBit k = true then mg_pa E d g k ||| (E k &&& d) else mg_pa E d g k
theorem mg_pa_t {E : Nat → Nat} {d g k : Nat} (h : (mg_pa E d g k).testBit k = true) : mg_pa E d g (k + 1) = mg_pa E d g k ||| (E k &&& d) := if_pos h
theorem mg_pa_f {E : Nat → Nat} {d g k : Nat} (h : ¬ (mg_pa E d g k).testBit k = true) : mg_pa E d g (k + 1) = mg_pa E d g k := if_neg h
def mg_ip (E : Nat → Nat) (d : Nat) : Nat → Nat → Nat
  | 0 => fun g => g
  | n + 1 => fun g => mg_ip E d n (mg_pa E d g 10)
def mg_cls (E : Nat → Nat) (d g : Nat) : Prop := ∀ i j, i < 10 → g.testBit i = true → (E i).testBit j = true → d.testBit j = true → g.testBit j = true
def mg_su (g h : Nat) : Prop := ∀ i, g.testBit i = true → h.testBit i = true
theorem mg_or_l {a b i : Nat} (h : a.testBit i = true) : (a ||| b).testBit i = true := by
  rw [Nat.testBit_or, h]
  rfl
theorem mg_or_r {a b i : Nat} (h : b.testBit i = true) : (a ||| b).testBit i = true := by
  rw [Nat.testBit_or, h, Bool.or_true]
theorem mg_an {a b i : Nat} (h : a.testBit i = true) (h' : b.testBit i = true) : (a &&& b).testBit i = true := by
  rw [Nat.testBit_and, h, h']
  rfl
theorem mg_or_e {a b i : Nat} (h : (a ||| b).testBit i = true) : a.testBit i = true ∨ b.testBit i = true := by
  rw [Nat.testBit_or, Bool.or_eq_true] at h
  exact h
theorem mg_an_e {a b i : Nat} (h : (a &&& b).testBit i = true) : a.testBit i = true ∧ b.testBit i = true := by
  rw [Nat.testBit_and, Bool.and_eq_true] at h
  exact h
/-- one step T of a closing: it grows, it takes in all neighbours, it stays within every closed set, it stays small -/
def mg_stp (E : Nat → Nat) (d : Nat) (T : Nat → Nat) : Prop := ∀ g, g < 1024 → T g < 1024 ∧ mg_su g (T g) ∧ (∀ i j, i < 10 → g.testBit i = true → (E i).testBit j = true → d.testBit j = true → (T g).testBit j = true) ∧ ∀ D, mg_cls E d D → mg_su g D → mg_su (T g) D
def mg_nt (T : Nat → Nat) : Nat → Nat → Nat
  | 0 => fun g => g
  | n + 1 => fun g => mg_nt T n (T g)
theorem mg_nt_it (E : Nat → Nat) (d : Nat) : ∀ n g, mg_it E d n g = mg_nt (mg_st E d) n g := by
  intro n
  induction n with
  | zero => exact fun g => rfl
  | succ n ih => exact fun g => ih _
theorem mg_nt_ip (E : Nat → Nat) (d : Nat) : ∀ n g, mg_ip E d n g = mg_nt (fun g => mg_pa E d g 10) n g := by
  intro n
  induction n with
  | zero => exact fun g => rfl
  | succ n ih => exact fun g => ih _
theorem mg_full {E : Nat → Nat} {d g : Nat} (hE : ∀ a, a < 10 → E a < 1024) (h : 10 ≤ mg_cd g) : mg_cls E d g := by
  intro i j hi _ hj _
  have j10 := mg_bit_lt (hE i hi) hj
  cases q : g.testBit j with
  | true => rfl
  | false =>
    have := mg_ct_lt (p := fun i => g.testBit i) (q := fun _ => true) (j := j) 10 j10 (fun _ _ _ => rfl) q rfl
    have := mg_ct_le (fun _ => true) 10
    have h' : 10 ≤ mg_ct (fun i => g.testBit i) 10 := h
    omega
theorem mg_nt_cls {E : Nat → Nat} {d : Nat} {T : Nat → Nat} (hE : ∀ a, a < 10 → E a < 1024) (hT : mg_stp E d T) : ∀ n g, g < 1024 → (mg_cls E d g ∨ 10 ≤ mg_cd g + n) → mg_cls E d (mg_nt T n g) := by
  intro n
  induction n with
  | zero =>
    intro g hg h
    rcases h with h | h
    · exact h
    · exact mg_full hE h
  | succ n ih =>
    intro g hg h
    obtain ⟨t1, t2, t3, t4⟩ := hT g hg
    show mg_cls E d (mg_nt T n (T g))
    by_cases e : T g = g
    · rw [e]
      refine ih g hg (Or.inl ?_)
      intro i j hi h1 h2 h3
      have := t3 i j hi h1 h2 h3
      rw [e] at this
      exact this
    · refine ih (T g) t1 ?_
      rcases h with h | h
      · refine absurd ?_ e
        exact mg_eq (fun i => ⟨t4 g h (fun _ q => q) i, t2 i⟩)
      · right
        obtain ⟨j, hj⟩ := Nat.exists_testBit_ne_of_ne e
        have j1 : (T g).testBit j = true := by
          cases q : (T g).testBit j with
          | true => rfl
          | false =>
            rw [q] at hj
            cases q2 : g.testBit j with
            | false => rw [q2] at hj; exact absurd rfl hj
            | true => rw [t2 j q2] at q; exact absurd q (by decide)
        have j2 : g.testBit j = false := by
          cases q : g.testBit j with
          | false => rfl
          | true => rw [j1, q] at hj; exact absurd rfl hj
        have := mg_ct_lt (p := fun i => g.testBit i) (q := fun i => (T g).testBit i) (j := j) 10 (mg_bit_lt t1 j1) (fun i _ => t2 i) j2 j1
        show 10 ≤ mg_ct (fun i => (T g).testBit i) 10 + n
        have h' : 10 ≤ mg_ct (fun i => g.testBit i) 10 + (n + 1) := h
        omega
theorem mg_nt_su {E : Nat → Nat} {d : Nat} {T : Nat → Nat} (hT : mg_stp E d T) : ∀ n g, g < 1024 → mg_nt T n g < 1024 ∧ mg_su g (mg_nt T n g) ∧ ∀ D, mg_cls E d D → mg_su g D → mg_su (mg_nt T n g) D := by
  intro n
  induction n with
  | zero => exact fun g hg => ⟨hg, fun _ h => h, fun _ _ h => h⟩
  | succ n ih =>
    intro g hg
    obtain ⟨t1, t2, t3, t4⟩ := hT g hg
    obtain ⟨i1, i2, i3⟩ := ih (T g) t1
    exact ⟨i1, fun i h => i2 i (t2 i h), fun D h1 h2 => i3 D h1 (t4 D h1 h2)⟩
theorem mg_st_s {E : Nat → Nat} {d : Nat} (hE : ∀ a, a < 10 → E a < 1024) : mg_stp E d (mg_st E d) := by
  intro g hg
  refine ⟨?_, fun i h => mg_or_l h, ?_, ?_⟩
  · refine mg_orlt hg (Nat.lt_of_le_of_lt Nat.and_le_left (mg_nb_lt hE (Nat.le_refl 10)))
  · intro i j hi h1 h2 h3
    exact mg_or_r (mg_an (mg_nb_i.2 ⟨i, hi, h1, h2⟩) h3)
  · intro D h1 h2 i h
    rcases mg_or_e h with q | q
    · exact h2 i q
    · obtain ⟨q1, q2⟩ := mg_an_e q
      obtain ⟨v, v1, v2, v3⟩ := mg_nb_i.1 q1
      exact h1 v i v1 (h2 v v2) v3 q2
theorem mg_pa_s1 {E : Nat → Nat} {d g : Nat} (hE : ∀ a, a < 10 → E a < 1024) (hg : g < 1024) : ∀ k, k ≤ 10 → mg_pa E d g k < 1024 ∧ mg_su g (mg_pa E d g k) ∧ (∀ i j, i < k → g.testBit i = true → (E i).testBit j = true → d.testBit j = true → (mg_pa E d g k).testBit j = true) ∧ ∀ D, mg_cls E d D → mg_su g D → mg_su (mg_pa E d g k) D := by
  intro k
  induction k with
  | zero => exact fun _ => ⟨hg, fun _ h => h, fun i j h => absurd h (by omega), fun _ _ h => h⟩
  | succ k ih =>
    intro hk
    obtain ⟨i1, i2, i3, i4⟩ := ih (by omega)
    by_cases c : (mg_pa E d g k).testBit k = true
    · rw [mg_pa_t c]
      refine ⟨mg_orlt i1 (Nat.lt_of_le_of_lt Nat.and_le_left (hE k (by omega))), fun i h => mg_or_l (i2 i h), ?_, ?_⟩
      · intro i j hi h1 h2 h3
        rcases Nat.lt_or_eq_of_le (Nat.le_of_lt_succ hi) with q | q
        · exact mg_or_l (i3 i j q h1 h2 h3)
        · rw [q] at h2
          exact mg_or_r (mg_an h2 h3)
      · intro D h1 h2 i h
        rcases mg_or_e h with q | q
        · exact i4 D h1 h2 i q
        · obtain ⟨q1, q2⟩ := mg_an_e q
          exact h1 k i (by omega) (i4 D h1 h2 k c) q1 q2
    · rw [mg_pa_f c]
      refine ⟨i1, i2, ?_, i4⟩
      intro i j hi h1 h2 h3
      rcases Nat.lt_or_eq_of_le (Nat.le_of_lt_succ hi) with q | q
      · exact i3 i j q h1 h2 h3
      · rw [q] at h1
        exact absurd (i2 k h1) c
theorem mg_pa_s {E : Nat → Nat} {d : Nat} (hE : ∀ a, a < 10 → E a < 1024) : mg_stp E d (fun g => mg_pa E d g 10) := fun g hg => mg_pa_s1 hE hg 10 (Nat.le_refl 10)
def mg_isc (E : Nat → Nat) (d v g : Nat) : Prop := g < 1024 ∧ g.testBit v = true ∧ mg_cls E d g ∧ ∀ D, D.testBit v = true → mg_cls E d D → mg_su g D
theorem mg_p2b {v i : Nat} : (2 ^ v).testBit i = true ↔ v = i := by
  rw [Nat.testBit_two_pow, decide_eq_true_iff]
theorem mg_cd_p {v : Nat} (hv : v < 10) : 0 < mg_ct (fun i => (2 ^ v).testBit i) 10 := by
  have e : (2 ^ v).testBit v = true := mg_p2b.2 rfl
  generalize 2 ^ v = g at e ⊢
  exact Nat.lt_of_le_of_lt (Nat.zero_le _) (mg_ct_lt (p := fun _ => false) (q := fun i => g.testBit i) (j := v) 10 hv (fun _ _ h => absurd (show false = true from h) (by decide)) rfl e)
theorem mg_nt_isc {E : Nat → Nat} {d v n : Nat} {T : Nat → Nat} (hE : ∀ a, a < 10 → E a < 1024) (hT : mg_stp E d T) (hv : v < 10) (hn : 9 ≤ n) : mg_isc E d v (mg_nt T n (2 ^ v)) := by
  have hg := mg_p2lt hv
  have e : ∀ i, (2 ^ v).testBit i = true ↔ v = i := fun i => mg_p2b
  have hp := mg_cd_p hv
  generalize 2 ^ v = g at e hp hg ⊢
  obtain ⟨i1, i2, i3⟩ := mg_nt_su hT n g hg
  have hq : 10 ≤ mg_ct (fun i => g.testBit i) 10 + n := by omega
  refine ⟨i1, i2 v ((e v).2 rfl), mg_nt_cls hE hT n g hg (Or.inr hq), ?_⟩
  intro D h1 h2
  refine i3 D h2 (fun i h => ?_)
  rw [← (e i).1 h]
  exact h1
def mg_comp (E : Nat → Nat) (d v : Nat) : Nat := mg_it E d 9 (2 ^ v)
theorem mg_comp_s {E : Nat → Nat} {d v : Nat} (hE : ∀ a, a < 10 → E a < 1024) (hv : v < 10) : mg_isc E d v (mg_comp E d v) := by
  unfold mg_comp
  rw [mg_nt_it]
  exact mg_nt_isc hE (mg_st_s hE) hv (Nat.le_refl 9)
theorem mg_hang_s {E : Nat → Nat} {d v : Nat} (hE : ∀ a, a < 10 → E a < 1024) (hv : v < 10) : mg_isc E d v (mg_ip E d 10 (2 ^ v)) := by
  rw [mg_nt_ip]
  exact mg_nt_isc hE (mg_pa_s hE) hv (by omega)
theorem mg_left {E : Nat → Nat} {f l v C C' : Nat} (hl : mg_su l f) (hc : mg_cls E f l) (hv : l.testBit v = true) (h : mg_isc E f v C) (h' : mg_isc E l v C') : C' = C := by
  obtain ⟨a1, a2, a3, a4⟩ := h
  obtain ⟨b1, b2, b3, b4⟩ := h'
  have Cl : mg_su C l := a4 l hv hc
  have Cl' : mg_su C' l := b4 l hv (fun i j _ _ _ h => h)
  have s1 : mg_su C' C := b4 C a2 (fun i j hi h1 h2 h3 => a3 i j hi h1 h2 (hl j h3))
  have s2 : mg_su C C' := a4 C' b2 (fun i j hi h1 h2 h3 => b3 i j hi h1 h2 (hc i j hi (Cl' i h1) h2 h3))
  exact mg_eq (fun i => ⟨s1 i, s2 i⟩)
theorem mg_left2 {E : Nat → Nat} {f l v C : Nat} (sy : mg_sy E) (hE : ∀ a, a < 10 → E a < 1024) (hl : mg_su l f) (hc : mg_cls E f l) (h : mg_isc E f v C) : mg_su (mg_sd l C) f ∧ mg_cls E f (mg_sd l C) := by
  refine ⟨fun i q => hl i (mg_sd_i.1 q).1, ?_⟩
  intro i j hi h1 h2 h3
  obtain ⟨q1, q2⟩ := mg_sd_i.1 h1
  refine mg_sd_i.2 ⟨hc i j hi q1 h2 h3, ?_⟩
  cases q : C.testBit j with
  | false => rfl
  | true =>
    have j10 := mg_bit_lt (hE i hi) h2
    have := h.2.2.1 j i j10 q (by rw [sy j i j10 hi]; exact h2) (hl i q1)
    rw [this] at q2
    exact absurd q2 (by decide)
def mg_cx (C : Nat → Nat) : Nat → Nat → Nat → Nat
  | 0 => fun _ _ => 0
  | n + 1 => fun k l => if l.testBit k = true then mg_cx C n (k + 1) (mg_sd l (C k)) + 1 else mg_cx C n (k + 1) l
theorem mg_cx_t {C : Nat → Nat} {n k l : Nat} (h : l.testBit k = true) : mg_cx C (n + 1) k l = mg_cx C n (k + 1) (mg_sd l (C k)) + 1 := if_pos h
theorem mg_cx_f {C : Nat → Nat} {n k l : Nat} (h : ¬ l.testBit k = true) : mg_cx C (n + 1) k l = mg_cx C n (k + 1) l := if_neg h
theorem mg_cx_le {C : Nat → Nat} : ∀ n k l, mg_cx C n k l ≤ n := by
  intro n
  induction n with
  | zero => exact fun _ _ => Nat.le_refl 0
  | succ n ih =>
    intro k l
    by_cases h : l.testBit k = true
    · rw [mg_cx_t h]
      have := ih (k + 1) (mg_sd l (C k))
      omega
    · rw [mg_cx_f h]
      have := ih (k + 1) l
      omega
theorem mg_cx_0 {C : Nat → Nat} : ∀ n k, mg_cx C n k 0 = 0 := by
  intro n
  induction n with
  | zero => exact fun _ => rfl
  | succ n ih =>
    intro k
    rw [mg_cx_f (by rw [Nat.zero_testBit]; decide)]
    exact ih _
theorem mg_cx_s {C : Nat → Nat} {n l : Nat} : ∀ d k, (∀ j, j < k + d → l.testBit j = false) → mg_cx C (n + d) k l = mg_cx C n (k + d) l := by
  intro d
  induction d with
  | zero => exact fun k _ => rfl
  | succ d ih =>
    intro k h
    have e : mg_cx C (n + d + 1) k l = mg_cx C (n + d) (k + 1) l := mg_cx_f (by rw [h k (by omega)]; decide)
    rw [show n + (d + 1) = n + d + 1 from rfl, e, ih (k + 1) (fun j hj => h j (by omega)), show k + 1 + d = k + (d + 1) from by omega]
theorem mg_cx_y {C : Nat → Nat} {l k : Nat} (hl : l < 1024) (h0 : ¬ l = 0) (hk : k < 10) (hb : ∀ j, j < k → l.testBit j = false) (hC : (C (mg_lo l)).testBit (mg_lo l) = true) : mg_cx C (10 - k) k l = mg_cx C (10 - (k + 1)) (k + 1) (mg_sd l (C (mg_lo l))) + 1 := by
  obtain ⟨f1, f2⟩ := mg_lo_s h0 hl
  have f10 := mg_bit_lt hl f1
  generalize hf : mg_lo l = f at *
  have kf : k ≤ f := by
    rcases Nat.lt_or_ge f k with q | q
    · rw [hb f q] at f1
      exact absurd f1 (by decide)
    · exact q
  obtain ⟨d, hd⟩ : ∃ d, f = k + d := ⟨f - k, by omega⟩
  obtain ⟨n, hn⟩ : ∃ n, 10 = f + (n + 1) := ⟨9 - f, by omega⟩
  have e1 : 10 - k = (n + 1) + d := by omega
  have e2 : 10 - (k + 1) = n + d := by omega
  rw [e1, e2, mg_cx_s d k (fun j hj => f2 j (by omega)), mg_cx_s d (k + 1) ?_, ← hd, mg_cx_t f1, show k + 1 + d = f + 1 from by omega]
  intro j hj
  cases q : (mg_sd l (C f)).testBit j with
  | false => rfl
  | true =>
    obtain ⟨q1, q2⟩ := mg_sd_i.1 q
    rcases Nat.lt_or_ge j f with z | z
    · rw [f2 j z] at q1
      exact absurd q1 (by decide)
    · have : j = f := by omega
      rw [this, hC] at q2
      exact absurd q2 (by decide)
end
section
def mg_bi (b : Bool) : Int32 := if b = true then 1 else 0
theorem mg_bi_c {b : Bool} {A B : Prop} (f : b = false → A) (g : b = true → B) : (mg_bi b = 0 → A) ∧ (¬ mg_bi b = 0 → B) := by
  cases b with
  | false => exact ⟨fun _ => f rfl, fun h => absurd rfl h⟩
  | true => exact ⟨fun h => absurd h (by decide), fun _ => g rfl⟩
theorem mg_bi_n (b : Bool) : narrow .boolean (.int (mg_bi b)) = .int (mg_bi b) := by
  cases b <;> rfl
theorem mg_bi_t {b : Bool} (h : b = true) : mg_bi b = 1 := by rw [h]; rfl
theorem mg_bi_f {b : Bool} (h : b = false) : mg_bi b = 0 := by rw [h]; rfl
theorem mg_ff {b : Bool} (h : ¬ b = true) : b = false := by
  cases b with
  | false => rfl
  | true => exact absurd rfl h
theorem mg_hc {s v : Nat} {A B : Prop} (hs : s < 1024) (hv : v < 10) (f : s.testBit v = true → A) (g : s.testBit v = false → B) : (((nI s >>> (nI v &&& 31)) &&& 1) = 1 → A) ∧ (¬ ((nI s >>> (nI v &&& 31)) &&& 1) = 1 → B) := by
  rw [mg_has1 hs hv]
  exact ⟨f, fun h => g (mg_ff h)⟩
def mg_A (f : Nat → Int32) (E : Nat → Nat) : Prop := ∀ i, i < 10 → f i = nI (E i)
def mg_T (t : Nat → Int32) (E : Nat → Nat) : Prop := ∀ j, j < 1024 → t j = nI (mg_M E j)
def mg_G (E : Nat → Nat) : Prop := (∀ a, a < 10 → E a < 1024) ∧ mg_sy E ∧ ∀ a, a < 10 → (E a).testBit a = false
theorem mg_Ar {f : Nat → Int32} {E : Nat → Nat} {v : Nat} (h : mg_A f E) (hv : v < 10) : f (nI v).toNatClampNeg = nI (E v) := by
  rw [nI_clamp (by omega)]
  exact h v hv
theorem mg_Tr {t : Nat → Int32} {E : Nat → Nat} {j : Nat} (h : mg_T t E) (hj : j < 1024) : t (nI j).toNatClampNeg = nI (mg_M E j) := by
  rw [nI_clamp (by omega)]
  exact h j hj
theorem mg_rm_1 {s a : Nat} (h : s < 1024) : mg_rm s a < 1024 := Nat.lt_of_le_of_lt (mg_rm_le s a) h
theorem mg_sd_1 {s a : Nat} (h : s < 1024) : mg_sd s a < 1024 := Nat.lt_of_le_of_lt (mg_sd_le s a) h
theorem mg_an_1 {s a : Nat} (h : s < 1024) : s &&& a < 1024 := Nat.lt_of_le_of_lt Nat.and_le_left h
def mg_vo (p : Nat) : Int32 := if p < 10 then nI p else -2
theorem mg_vo_1 {p : Nat} (h : p < 10) : mg_vo p = nI p := if_pos h
theorem mg_vo_2 {p : Nat} (h : ¬ p < 10) : mg_vo p = -2 := if_neg h
theorem mg_ne2 : ∀ p, p < 10 → ¬ nI p = -2 := by decide +kernel
theorem mg_ne1 : ∀ p, p < 10 → ¬ nI p = -1 := by decide +kernel
theorem mg_nl0 {p : Nat} (h : p < 10) : ¬ nI p < 0 := nI_pos (by omega)
/-- the graph with the edge between a and b put in, or taken out -/
def mg_ad (E : Nat → Nat) (a b : Nat) : Nat → Nat := fun i => if i = b then E b ||| 2 ^ a else if i = a then E a ||| 2 ^ b else E i
def mg_cu (E : Nat → Nat) (a b : Nat) : Nat → Nat := fun i => if i = b then mg_rm (E b) a else if i = a then mg_rm (E a) b else E i
theorem mg_ad_i {E : Nat → Nat} {a b i j : Nat} (hab : a ≠ b) : (mg_ad E a b i).testBit j = true ↔ ((E i).testBit j = true ∨ (i = a ∧ j = b) ∨ (i = b ∧ j = a)) := by
  unfold mg_ad
  by_cases h1 : i = b
  · rw [if_pos h1, Nat.testBit_or, Bool.or_eq_true, mg_p2b, h1]
    constructor
    · rintro (h | h)
      · exact Or.inl h
      · exact Or.inr (Or.inr ⟨rfl, h.symm⟩)
    · rintro (h | h | h)
      · exact Or.inl h
      · exact absurd h.1.symm hab
      · exact Or.inr h.2.symm
  · rw [if_neg h1]
    by_cases h2 : i = a
    · rw [if_pos h2, Nat.testBit_or, Bool.or_eq_true, mg_p2b, h2]
      constructor
      · rintro (h | h)
        · exact Or.inl h
        · exact Or.inr (Or.inl ⟨rfl, h.symm⟩)
      · rintro (h | h | h)
        · exact Or.inl h
        · exact Or.inr h.2.symm
        · exact absurd h.1 hab
    · rw [if_neg h2]
      exact ⟨fun h => Or.inl h, fun h => by
        rcases h with h | h | h
        · exact h
        · exact absurd h.1 h2
        · exact absurd h.1 h1⟩
theorem mg_cu_i {E : Nat → Nat} {a b i j : Nat} (hab : a ≠ b) : (mg_cu E a b i).testBit j = true ↔ ((E i).testBit j = true ∧ ¬ (i = a ∧ j = b) ∧ ¬ (i = b ∧ j = a)) := by
  unfold mg_cu
  by_cases h1 : i = b
  · rw [if_pos h1, mg_rm_i, h1]
    exact ⟨fun h => ⟨h.1, fun q => hab q.1.symm, fun q => h.2 q.2⟩, fun h => ⟨h.1, fun q => h.2.2 ⟨rfl, q⟩⟩⟩
  · rw [if_neg h1]
    by_cases h2 : i = a
    · rw [if_pos h2, mg_rm_i, h2]
      exact ⟨fun h => ⟨h.1, fun q => h.2 q.2, fun q => hab q.1⟩, fun h => ⟨h.1, fun q => h.2.1 ⟨rfl, q⟩⟩⟩
    · rw [if_neg h2]
      exact ⟨fun h => ⟨h, fun q => h2 q.1, fun q => h1 q.1⟩, fun h => h.1⟩
theorem mg_beq {x y : Bool} (h : x = true ↔ y = true) : x = y := by
  cases x <;> cases y
  · rfl
  · exact absurd (h.2 rfl) (by decide)
  · exact absurd (h.1 rfl) (by decide)
  · rfl
theorem mg_G_ad {E : Nat → Nat} {a b : Nat} (ha : a < 10) (hb : b < 10) (hab : a ≠ b) (h : mg_G E) : mg_G (mg_ad E a b) := by
  obtain ⟨h1, h2, h3⟩ := h
  refine ⟨fun i hi => mg_lt (fun j hj => ?_), fun i j hi hj => mg_beq ?_, fun i hi => mg_ff (fun h => ?_)⟩
  · rcases (mg_ad_i hab).1 hj with q | q | q
    · exact mg_bit_lt (h1 i hi) q
    · omega
    · omega
  · rw [mg_ad_i hab, mg_ad_i hab, h2 i j hi hj]
    exact ⟨fun h => by
      rcases h with q | q | q
      · exact Or.inl q
      · exact Or.inr (Or.inr ⟨q.2, q.1⟩)
      · exact Or.inr (Or.inl ⟨q.2, q.1⟩), fun h => by
      rcases h with q | q | q
      · exact Or.inl q
      · exact Or.inr (Or.inr ⟨q.2, q.1⟩)
      · exact Or.inr (Or.inl ⟨q.2, q.1⟩)⟩
  · rcases (mg_ad_i hab).1 h with q | q | q
    · rw [h3 i hi] at q
      exact absurd q (by decide)
    · omega
    · omega
theorem mg_G_cu {E : Nat → Nat} {a b : Nat} (hab : a ≠ b) (h : mg_G E) : mg_G (mg_cu E a b) := by
  obtain ⟨h1, h2, h3⟩ := h
  refine ⟨fun i hi => mg_lt (fun j hj => ?_), fun i j hi hj => mg_beq ?_, fun i hi => mg_ff (fun h => ?_)⟩
  · exact mg_bit_lt (h1 i hi) ((mg_cu_i hab).1 hj).1
  · rw [mg_cu_i hab, mg_cu_i hab, h2 i j hi hj]
    exact ⟨fun h => ⟨h.1, fun q => h.2.2 ⟨q.2, q.1⟩, fun q => h.2.1 ⟨q.2, q.1⟩⟩, fun h => ⟨h.1, fun q => h.2.2 ⟨q.2, q.1⟩, fun q => h.2.1 ⟨q.2, q.1⟩⟩⟩
  · have := ((mg_cu_i hab).1 h).1
    rw [h3 i hi] at this
    exact absurd this (by decide)
theorem mg_G_0 : mg_G (fun _ => 0) := ⟨fun _ _ => (by decide : (0 : Nat) < 1024), fun a b _ _ => by
  show (0 : Nat).testBit b = (0 : Nat).testBit a
  rw [Nat.zero_testBit, Nat.zero_testBit], fun a _ => Nat.zero_testBit a⟩
theorem mg_A_ad {f : Nat → Int32} {E : Nat → Nat} {a b : Nat} (ha : a < 10) (hb : b < 10) (hab : a ≠ b) (h : mg_A f E) : mg_A (upd (upd f a (nI (E a ||| 2 ^ b))) b (nI (E b ||| 2 ^ a))) (mg_ad E a b) := by
  intro i hi
  unfold mg_ad
  by_cases h1 : i = b
  · rw [if_pos h1, h1, pk_us]
  · rw [if_neg h1, pk_un h1]
    by_cases h2 : i = a
    · rw [if_pos h2, h2, pk_us]
    · rw [if_neg h2, pk_un h2]
      exact h i hi
theorem mg_A_cu {f : Nat → Int32} {E : Nat → Nat} {a b : Nat} (ha : a < 10) (hb : b < 10) (hab : a ≠ b) (h : mg_A f E) : mg_A (upd (upd f a (nI (mg_rm (E a) b))) b (nI (mg_rm (E b) a))) (mg_cu E a b) := by
  intro i hi
  unfold mg_cu
  by_cases h1 : i = b
  · rw [if_pos h1, h1, pk_us]
  · rw [if_neg h1, pk_un h1]
    by_cases h2 : i = a
    · rw [if_pos h2, h2, pk_us]
    · rw [if_neg h2, pk_un h2]
      exact h i hi
end
section
def mg_ep (a b i j : Nat) : Prop := (i = a ∧ j = b) ∨ (i = b ∧ j = a)
theorem mg_ad_e {E : Nat → Nat} {a b i j : Nat} (hab : a ≠ b) : (mg_ad E a b i).testBit j = true ↔ ((E i).testBit j = true ∨ mg_ep a b i j) := mg_ad_i hab
/-- X's circle: the edge between b and a, and the way from a to v -/
def mg_XI (E : Nat → Nat) (a b v : Nat) (E' : Nat → Nat) : Prop := mg_G E' ∧ ∀ i j, (E' i).testBit j = true ↔ ((E i).testBit j = true ∨ mg_ep b a i j ∨ ∃ w, a ≤ w ∧ w < v ∧ mg_ep w (w + 1) i j)
/-- Y's circle: the way from a to v -/
def mg_YI (E : Nat → Nat) (a v : Nat) (E' : Nat → Nat) : Prop := mg_G E' ∧ ∀ i j, (E' i).testBit j = true ↔ ((E i).testBit j = true ∨ ∃ w, a ≤ w ∧ w < v ∧ mg_ep w (w + 1) i j)
def mg_no (b : Bool) : Nat := if b = true then 0 else 1
theorem mg_no_t {b : Bool} (h : b = true) : mg_no b = 0 := if_pos h
theorem mg_no_f {b : Bool} (h : ¬ b = true) : mg_no b = 1 := if_neg h
theorem mg_no_le (b : Bool) : mg_no b ≤ 1 := by cases b <;> decide
def mg_sm (E : Nat → Nat) (a : Nat) : Nat → Nat
  | 0 => 0
  | n + 1 => mg_sm E a n + mg_no ((E (a + n)).testBit (a + n + 1))
theorem mg_sm_le (E : Nat → Nat) (a : Nat) : ∀ n, mg_sm E a n ≤ n := by
  intro n
  induction n with
  | zero => exact Nat.le_refl 0
  | succ n ih =>
    have := mg_no_le ((E (a + n)).testBit (a + n + 1))
    show mg_sm E a n + mg_no _ ≤ n + 1
    omega
theorem mg_sm_s (E : Nat → Nat) {a v : Nat} (h : a ≤ v) : mg_sm E a (v + 1 - a) = mg_sm E a (v - a) + mg_no ((E v).testBit (v + 1)) := by
  obtain ⟨n, rfl⟩ : ∃ n, v = a + n := ⟨v - a, by omega⟩
  rw [show a + n + 1 - a = n + 1 from by omega, show a + n - a = n from by omega]
  rfl
theorem mg_XI_0 {E : Nat → Nat} {a b : Nat} (hG : mg_G E) (ha : a < 10) (hb : b < 10) (hab : b ≠ a) : mg_XI E a b a (mg_ad E b a) := by
  refine ⟨mg_G_ad hb ha hab hG, fun i j => ?_⟩
  rw [mg_ad_e hab]
  constructor
  · rintro (h | h)
    · exact Or.inl h
    · exact Or.inr (Or.inl h)
  · rintro (h | h | ⟨w, h1, h2, _⟩)
    · exact Or.inl h
    · exact Or.inr h
    · exact absurd h2 (by omega)
theorem mg_XI_s {E E' : Nat → Nat} {a b v : Nat} (h : mg_XI E a b v E') (hv : a ≤ v) (hb : v < b) (hb10 : b < 10) : mg_XI E a b (v + 1) (mg_ad E' v (v + 1)) := by
  obtain ⟨h1, h2⟩ := h
  refine ⟨mg_G_ad (by omega) (by omega) (by omega) h1, fun i j => ?_⟩
  rw [mg_ad_e (by omega), h2]
  constructor
  · rintro ((h | h | ⟨w, q1, q2, q3⟩) | h)
    · exact Or.inl h
    · exact Or.inr (Or.inl h)
    · exact Or.inr (Or.inr ⟨w, q1, by omega, q3⟩)
    · exact Or.inr (Or.inr ⟨v, hv, by omega, h⟩)
  · rintro (h | h | ⟨w, q1, q2, q3⟩)
    · exact Or.inl (Or.inl h)
    · exact Or.inl (Or.inr (Or.inl h))
    · rcases Nat.lt_or_eq_of_le (Nat.le_of_lt_succ q2) with g | g
      · exact Or.inl (Or.inr (Or.inr ⟨w, q1, g, q3⟩))
      · rw [g] at q3
        exact Or.inr q3
theorem mg_XI_o {E E' : Nat → Nat} {a b v : Nat} (h : mg_XI E a b v E') (hab : a + 2 ≤ b) (hv : a ≤ v) (hb : v < b) : (E' v).testBit (v + 1) = (E v).testBit (v + 1) := by
  apply mg_beq
  rw [h.2]
  constructor
  · rintro (h | (h | h) | ⟨w, q1, q2, (q3 | q3)⟩)
    · exact h
    · omega
    · omega
    · omega
    · omega
  · exact fun h => Or.inl h
theorem mg_YI_0 {E : Nat → Nat} {a : Nat} (hG : mg_G E) : mg_YI E a a E := by
  refine ⟨hG, fun i j => ⟨fun h => Or.inl h, ?_⟩⟩
  rintro (h | ⟨w, h1, h2, _⟩)
  · exact h
  · exact absurd h2 (by omega)
theorem mg_YI_s {E E' : Nat → Nat} {a v : Nat} (h : mg_YI E a v E') (hv : a ≤ v) (hb : v + 1 < 10) : mg_YI E a (v + 1) (mg_ad E' v (v + 1)) := by
  obtain ⟨h1, h2⟩ := h
  refine ⟨mg_G_ad (by omega) (by omega) (by omega) h1, fun i j => ?_⟩
  rw [mg_ad_e (by omega), h2]
  constructor
  · rintro ((h | ⟨w, q1, q2, q3⟩) | h)
    · exact Or.inl h
    · exact Or.inr ⟨w, q1, by omega, q3⟩
    · exact Or.inr ⟨v, hv, by omega, h⟩
  · rintro (h | ⟨w, q1, q2, q3⟩)
    · exact Or.inl (Or.inl h)
    · rcases Nat.lt_or_eq_of_le (Nat.le_of_lt_succ q2) with g | g
      · exact Or.inl (Or.inr ⟨w, q1, g, q3⟩)
      · rw [g] at q3
        exact Or.inr q3
theorem mg_G_in {E : Nat → Nat} {a b i j : Nat} (hG : mg_G E) (ha : a < 10) (hb : b < 10) (h : (E a).testBit b = true) (e : mg_ep a b i j) : (E i).testBit j = true := by
  rcases e with ⟨rfl, rfl⟩ | ⟨rfl, rfl⟩
  · exact h
  · rw [hG.2.1 _ _ hb ha]
    exact h
theorem mg_YI_k {E E' : Nat → Nat} {a v : Nat} (h : mg_YI E a v E') (hv : a ≤ v) (hb : v + 1 < 10) (hh : (E' v).testBit (v + 1) = true) : mg_YI E a (v + 1) E' := by
  obtain ⟨h1, h2⟩ := h
  refine ⟨h1, fun i j => ?_⟩
  constructor
  · intro q
    rcases (h2 i j).1 q with q | ⟨w, q1, q2, q3⟩
    · exact Or.inl q
    · exact Or.inr ⟨w, q1, by omega, q3⟩
  · rintro (q | ⟨w, q1, q2, q3⟩)
    · exact (h2 i j).2 (Or.inl q)
    · rcases Nat.lt_or_eq_of_le (Nat.le_of_lt_succ q2) with g | g
      · exact (h2 i j).2 (Or.inr ⟨w, q1, g, q3⟩)
      · rw [g] at q3
        exact mg_G_in h1 (by omega) hb hh q3
theorem mg_YI_o {E E' : Nat → Nat} {a v : Nat} (h : mg_YI E a v E') (hv : a ≤ v) : (E' v).testBit (v + 1) = (E v).testBit (v + 1) := by
  apply mg_beq
  rw [h.2]
  constructor
  · rintro (h | ⟨w, q1, q2, (q3 | q3)⟩)
    · exact h
    · omega
    · omega
  · exact fun h => Or.inl h
theorem mg_YI_p {E E' : Nat → Nat} {a b : Nat} (h : mg_YI E a b E') (hab : a + 2 ≤ b) : (E' b).testBit a = (E b).testBit a := by
  apply mg_beq
  rw [h.2]
  constructor
  · rintro (h | ⟨w, q1, q2, (q3 | q3)⟩)
    · exact h
    · omega
    · omega
  · exact fun h => Or.inl h
theorem mg_XY {E EX EY : Nat → Nat} {a b : Nat} (hX : mg_XI E a b b EX) (hY : ∀ i j, (EY i).testBit j = true ↔ ((E i).testBit j = true ∨ mg_ep b a i j ∨ ∃ w, a ≤ w ∧ w < b ∧ mg_ep w (w + 1) i j)) : EY = EX := by
  funext i
  apply mg_eq
  intro j
  rw [hY, hX.2]
theorem mg_YI_e1 {E E' : Nat → Nat} {a b : Nat} (h : mg_YI E a b E') (hab : b ≠ a) : ∀ i j, (mg_ad E' b a i).testBit j = true ↔ ((E i).testBit j = true ∨ mg_ep b a i j ∨ ∃ w, a ≤ w ∧ w < b ∧ mg_ep w (w + 1) i j) := by
  intro i j
  rw [mg_ad_e hab, h.2]
  constructor
  · rintro ((q | q) | q)
    · exact Or.inl q
    · exact Or.inr (Or.inr q)
    · exact Or.inr (Or.inl q)
  · rintro (q | q | q)
    · exact Or.inl (Or.inl q)
    · exact Or.inr q
    · exact Or.inl (Or.inr q)
theorem mg_YI_e2 {E E' : Nat → Nat} {a b : Nat} (h : mg_YI E a b E') (ha : a < 10) (hb : b < 10) (hh : (E' b).testBit a = true) : ∀ i j, (E' i).testBit j = true ↔ ((E i).testBit j = true ∨ mg_ep b a i j ∨ ∃ w, a ≤ w ∧ w < b ∧ mg_ep w (w + 1) i j) := by
  intro i j
  constructor
  · intro q
    rcases (h.2 i j).1 q with q | q
    · exact Or.inl q
    · exact Or.inr (Or.inr q)
  · rintro (q | q | q)
    · exact (h.2 i j).2 (Or.inl q)
    · exact mg_G_in h.1 hb ha hh q
    · exact (h.2 i j).2 (Or.inr q)
end
section
theorem mg_best_0 {g : Nat → Nat} {e r : Nat} : ∀ k, (∀ j, j < k → r.testBit j = false) → mg_best g e r k = g r := by
  intro k
  induction k with
  | zero => exact fun _ => rfl
  | succ k ih =>
    intro h
    rw [mg_best_f (fun q => by rw [h k (by omega)] at q; exact absurd q.1 (by decide))]
    exact ih (fun j hj => h j (by omega))
theorem mg_best_b {E : Nat → Nat} {e r : Nat} (hr : r < 1024) (k : Nat) : mg_best (mg_M E) e r k ≤ 1024 := by
  rcases mg_best_eq (g := mg_M E) (e := e) (r := r) k with h | ⟨u, _, _, _, h⟩
  · rw [h]
    have := mg_M_le E r hr
    omega
  · rw [h]
    have h1 := mg_rm_le r u
    have := mg_M_le E (mg_rm r u) (by omega)
    omega
theorem mg_M_b (E : Nat → Nat) {s : Nat} (hs : s < 1024) : mg_M E s < 1024 := Nat.lt_of_le_of_lt (mg_M_le E s hs) hs
theorem xw_has {post : Int32 → Prop} {x y : Int32} {s v : Nat} (hx : x = nI s) (hy : y = nI v) (hs : s < 1024) (hv : v < 10) (h : post (mg_bi (s.testBit v))) : wpX_has post x y := by
  subst hx
  subst hy
  unfold wpX_has
  refine mg_hc hs hv (fun q => ?_) (fun q => ?_)
  · rw [mg_bi_t q] at h
    exact h
  · rw [mg_bi_f q] at h
    exact h
theorem xw_hasC {x y : Int32} {s v : Nat} {A B : Prop} (hx : x = nI s) (hy : y = nI v) (hs : s < 1024) (hv : v < 10) (f : s.testBit v = false → A) (g : s.testBit v = true → B) : wpX_has (fun r => (r = 0 → A) ∧ (¬ r = 0 → B)) x y := xw_has hx hy hs hv (mg_bi_c f g)
theorem xw_iv_g {post : Int32 → Prop} {v : Nat} (hv : v < 10) (h : post 1) : wpX_isVertex post (nI v) := by
  unfold wpX_isVertex
  exact br_f (nI_pos (by omega)) (br_f (nI_ge (b := 10) hv (by decide)) h)
theorem xw_iv_b {post : Int32 → Prop} {x : Int32} (hx : x < 0 ∨ nI 10 ≤ x) (h : post 0) : wpX_isVertex post x := by
  unfold wpX_isVertex
  refine br_c (fun _ => h) (fun q => ?_)
  rcases hx with hx | hx
  · exact absurd hx q
  · exact br_t hx h
theorem xw_ivC {x : Int32} {A B : Prop} (f : (x < 0 ∨ nI 10 ≤ x) → A) (g : ∀ v, v < 10 → x = nI v → B) : wpX_isVertex (fun r => (r = 0 → A) ∧ (¬ r = 0 → B)) x := by
  rcases pk_ix x (n := 10) (by decide) with h | h | ⟨v, hv, h⟩
  · exact xw_iv_b (Or.inl h) (br_t rfl (f (Or.inl h)))
  · exact xw_iv_b (Or.inr h) (br_t rfl (f (Or.inr h)))
  · rw [h]
    exact xw_iv_g hv (br_f (by decide) (g v hv h))
theorem mg_bad_n {x : Int32} (h : x < 0 ∨ nI 10 ≤ x) : ∀ v, v < 10 → ¬ x = nI v := by
  intro v hv e
  rw [e] at h
  rcases h with h | h
  · exact absurd h (nI_pos (by omega))
  · exact absurd h (nI_ge (b := 10) hv (by decide))
def mg_bp (x y : Int32) : Prop := ∀ a b, a < 10 → b < 10 → a ≠ b → x = nI a → y = nI b → False
theorem xw_ip_g {post : Int32 → Prop} {a b : Nat} (ha : a < 10) (hb : b < 10) (hab : a ≠ b) (h : post 1) : wpX_isPair post (nI a) (nI b) := by
  unfold wpX_isPair
  refine xw_iv_g ha (br_f (by decide) ?_)
  refine xw_iv_g hb (br_f (by decide) ?_)
  exact br_f (fun q => hab ((nI_eq (by omega) (by omega)).1 q)) h
theorem xw_ip_b {post : Int32 → Prop} {x y : Int32} (hxy : mg_bp x y) (h : post 0) : wpX_isPair post x y := by
  unfold wpX_isPair
  refine xw_ivC (fun _ => h) (fun a ha hx => ?_)
  refine xw_ivC (fun _ => h) (fun b hb hy => ?_)
  refine br_c (fun _ => h) (fun q => ?_)
  exact absurd (hxy a b ha hb (fun e => q (by rw [hx, hy, e])) hx hy) id
theorem mg_pair (x y : Int32) : mg_bp x y ∨ ∃ a b, a < 10 ∧ b < 10 ∧ a ≠ b ∧ x = nI a ∧ y = nI b := by
  by_cases h : ∃ a b, a < 10 ∧ b < 10 ∧ a ≠ b ∧ x = nI a ∧ y = nI b
  · exact Or.inr h
  · exact Or.inl (fun a b ha hb hab hx hy => h ⟨a, b, ha, hb, hab, hx, hy⟩)
theorem xw_without {post : Int32 → Prop} {x y : Int32} {s v : Nat} (hx : x = nI s) (hy : y = nI v) (hv : v < 10) (h : post (nI (mg_rm s v))) : wpX_without post x y := by
  unfold wpX_without
  rw [hx, hy, mg_rmI s hv]
  exact h
theorem xw_sizeWith {post : Int32 → Prop} {o : Int32} {f t : Nat → Int32} {s a b m : Nat} (hs : s < 1024) (ha : a < 10) (hb : b < 10) (ht : t (mg_rm (mg_rm s a) b) = nI m) (h : post (nI (m + 1))) : wpX_sizeWith post (o, f, t) (nI s) (nI a) (nI b) := by
  unfold wpX_sizeWith
  dsimp only
  have hl : mg_rm (mg_rm s a) b < 1024 := mg_rm_1 (mg_rm_1 hs)
  refine nm_r (e' := nI (mg_rm (mg_rm s a) b)) (by rw [mg_rmI s ha, mg_rmI _ hb]) ⟨vp_in_nI hl (by decide), ?_⟩
  rw [nI_clamp (by omega), ht, nI_1]
  exact h
theorem xw_lowest_2 {post : Int32 → Prop} {s : Nat} (hs : s < 1024) : ∀ n k, k + n = 9 → post (nI (mg_fs (fun i => s.testBit i) n k)) → wX_lowest_2 post (nI s) (n + 1) (nI k) := by
  intro n
  induction n with
  | zero =>
    intro k hk h
    have : k = 9 := by omega
    subst this
    rw [wX_lowest_2]
    exact br_t (nI_le (Nat.le_refl 9) (by decide)) h
  | succ n ih =>
    intro k hk h
    rw [wX_lowest_2]
    refine br_f (nI_ge (b := 9) (by omega) (by decide)) ?_
    refine xw_hasC rfl rfl hs (by omega) (fun q => ?_) (fun q => ?_)
    · refine nm_r (nI_1 k) (ih (k + 1) (by omega) ?_)
      rw [mg_fs_f (by rw [q]; decide)] at h
      exact h
    · rw [mg_fs_t q] at h
      exact h
theorem xw_lowest {post : Int32 → Prop} {s : Nat} (hs : s < 1024) (h : post (nI (mg_lo s))) : wpX_lowest post (nI s) := ⟨10, xw_lowest_2 hs 9 0 rfl h⟩
theorem xw_measured_21 {post : Int32 → Prop} {o : Int32} {f t : Nat → Int32} {E : Nat → Nat} {s v : Nat} (hs : s < 1024) (hv : v < 10) (hsv : s.testBit v = true) (hA : mg_A f E) (hE : E v < 1024) (ht : ∀ j, j < s → t j = nI (mg_M E j)) (h : post (nI (mg_best (mg_M E) (E v) (mg_rm s v) 10))) : ∀ n k, k + n = 10 → v < k → wX_measured_21 post (nI s) (nI v) o f t (n + 1) (nI (mg_best (mg_M E) (E v) (mg_rm s v) k)) (nI k) := by
  intro n
  induction n with
  | zero =>
    intro k hk hvk
    have : k = 10 := by omega
    subst this
    rw [wX_measured_21]
    exact br_t (nI_le (Nat.le_refl 10) (by decide)) h
  | succ n ih =>
    intro k hk hvk
    have hr := mg_rm_lt hsv
    have hr1 : mg_rm s v < 1024 := by omega
    have hu := mg_rm_le (mg_rm s v) k
    have b1 := mg_best_b (E := E) (e := E v) hr1 k
    have b2 := mg_M_b E (s := mg_rm (mg_rm s v) k) (by omega)
    have IH := ih (k + 1) (by omega) (by omega)
    rw [wX_measured_21]
    refine br_f (nI_ge (b := 10) (by omega) (by decide)) ?_
    refine xw_hasC rfl rfl hs (by omega) (fun q => ?_) (fun q => ?_)
    · rw [mg_best_f (fun c => by rw [(mg_rm_i.1 c.1).1] at q; exact absurd q (by decide))] at IH
      exact nm_r (nI_1 k) IH
    · refine ⟨vp_in_nI hv (by decide), xw_hasC (mg_Ar hA hv) rfl hE (by omega) (fun q2 => ?_) (fun q2 => ?_)⟩
      · rw [mg_best_f (fun c => by rw [c.2.1] at q2; exact absurd q2 (by decide))] at IH
        exact nm_r (nI_1 k) IH
      · refine xw_sizeWith hs hv (by omega) (ht _ (by omega)) ?_
        refine pk_le (mg_M E (mg_rm (mg_rm s v) k) + 1) (mg_best (mg_M E) (E v) (mg_rm s v) k) (fun c => ?_) (fun c => ?_)
        · rw [mg_best_f (fun d => by have := d.2.2; omega)] at IH
          exact nm_r (nI_1 k) IH
        · rw [mg_best_t ⟨mg_rm_i.2 ⟨q, by omega⟩, q2, c⟩] at IH
          exact nm_r (nI_1 k) IH
theorem xw_measured {post : Int32 → Prop} {o : Int32} {f t : Nat → Int32} {E : Nat → Nat} {s : Nat} (h0 : ¬ s = 0) (hs : s < 1024) (hA : mg_A f E) (hG : mg_G E) (ht : ∀ j, j < s → t j = nI (mg_M E j)) (h : post (nI (mg_M E s))) : wpX_measured post (o, f, t) (nI s) := by
  unfold wpX_measured
  dsimp only
  obtain ⟨l1, l2⟩ := mg_lo_s h0 hs
  have l10 := mg_bit_lt hs l1
  rw [mg_M_s h0 hs] at h
  refine xw_lowest hs (xw_without rfl rfl l10 ?_)
  have hl := mg_rm_lt l1
  refine ⟨vp_in_nI (by omega) (by decide), ?_⟩
  refine nm_r (e' := nI (mg_best (mg_M E) (E (mg_lo s)) (mg_rm s (mg_lo s)) (mg_lo s + 1))) ?_ ?_
  · rw [nI_clamp (by omega), ht _ hl, mg_best_0 (mg_lo s + 1) (fun j hj => ?_)]
    cases q : (mg_rm s (mg_lo s)).testBit j with
    | false => rfl
    | true =>
      obtain ⟨q1, q2⟩ := mg_rm_i.1 q
      rw [l2 j (by omega)] at q1
      exact absurd q1 (by decide)
  · refine nm_r (nI_1 _) ⟨(9 - mg_lo s) + 1, ?_⟩
    exact xw_measured_21 hs l10 l1 hA (hG.1 _ l10) ht h (9 - mg_lo s) (mg_lo s + 1) (by omega) (by omega)
theorem xw_measure_9 {post : SX → Prop} {o : Int32} {f : Nat → Int32} {E : Nat → Nat} (hA : mg_A f E) (hG : mg_G E) (h : ∀ t', mg_T t' E → post (o, f, t')) : ∀ n k (t : Nat → Int32), k + n = 1024 → 1 ≤ k → (∀ j, j < k → t j = nI (mg_M E j)) → wX_measure_9 post o (n + 1) (nI k) f t := by
  intro n
  induction n with
  | zero =>
    intro k t hk h1 ht
    have : k = 1024 := by omega
    subst this
    rw [wX_measure_9]
    exact br_t (nI_le (Nat.le_refl 1024) (by decide)) (h t ht)
  | succ n ih =>
    intro k t hk h1 ht
    rw [wX_measure_9]
    refine br_f (nI_ge (b := 1024) (by omega) (by decide)) ?_
    refine xw_measured (by omega) (by omega) hA hG ht ?_
    refine ⟨vp_in_nI (by omega) (by decide), ?_⟩
    refine nm_r (e' := upd t k (nI (mg_M E k))) (by rw [nI_clamp (by omega)]) ?_
    refine nm_r (nI_1 k) (ih (k + 1) _ (by omega) (by omega) (fun j hj => ?_))
    rcases Nat.lt_or_eq_of_le (Nat.le_of_lt_succ hj) with q | q
    · rw [pk_un (by omega)]
      exact ht j q
    · rw [q, pk_us]
theorem xw_measure {post : SX → Prop} {o : Int32} {f t : Nat → Int32} {E : Nat → Nat} (hA : mg_A f E) (hG : mg_G E) (h : ∀ t', mg_T t' E → post (o, f, t')) : wpX_measure post (o, f, t) := by
  unfold wpX_measure
  dsimp only
  refine nm_e ⟨1024, ?_⟩
  refine xw_measure_9 hA hG h 1023 1 _ rfl (by decide) (fun j hj => ?_)
  have : j = 0 := by omega
  rw [this, pk_us, mg_M_0]
  rfl
theorem xw_count_4 {post : Int32 → Prop} {s : Nat} (hs : s < 1024) (h : post (nI (mg_cd s))) : ∀ n k, k + n = 10 → wX_count_4 post (nI s) (n + 1) (nI (mg_ct (fun i => s.testBit i) k)) (nI k) := by
  intro n
  induction n with
  | zero =>
    intro k hk
    have : k = 10 := by omega
    subst this
    rw [wX_count_4]
    exact br_t (nI_le (Nat.le_refl 10) (by decide)) h
  | succ n ih =>
    intro k hk
    rw [wX_count_4]
    refine br_f (nI_ge (b := 10) (by omega) (by decide)) ?_
    refine nm_r (e' := nI (mg_ct (fun i => s.testBit i) (k + 1))) (by rw [mg_has hs (by omega), nI_add]; rfl) ?_
    exact nm_r (nI_1 k) (ih (k + 1) (by omega))
theorem xw_count {post : Int32 → Prop} {s : Nat} (hs : s < 1024) (h : post (nI (mg_cd s))) : wpX_count post (nI s) := ⟨11, xw_count_4 hs h 10 0 rfl⟩
theorem xw_isFree {post : Int32 → Prop} {f t : Nat → Int32} {E : Nat → Nat} {s v : Nat} (hs : s < 1024) (hv : v < 10) (hT : mg_T t E) (h : post (mg_bi (mg_fb E s v))) : wpX_isFree post (nI s, f, t) (nI v) := by
  unfold wpX_isFree
  dsimp only
  have hl : mg_rm s v < 1024 := mg_rm_1 hs
  have b1 := mg_M_b E hs
  have b2 := mg_M_b E hl
  refine xw_hasC rfl rfl hs hv (fun q => ?_) (fun q => ?_)
  · rw [mg_bi_f (mg_ff (fun c => by rw [(mg_fb_i.1 c).1] at q; exact absurd q (by decide)))] at h
    exact h
  · refine xw_without rfl rfl hv ⟨vp_in_nI hl (by decide), vp_in_nI hs (by decide), ?_⟩
    refine pk_eq (mg_M E (mg_rm s v)) (mg_M E s) (fun c => ?_) (fun c => ?_) (mg_Tr hT hl) (mg_Tr hT hs)
    · rw [mg_bi_t (mg_fb_i.2 ⟨q, c⟩)] at h
      exact h
    · rw [mg_bi_f (mg_ff (fun d => c (mg_fb_i.1 d).2))] at h
      exact h
theorem xw_fv_4 {post : Int32 → Prop} {f t : Nat → Int32} {E : Nat → Nat} {s : Nat} (hs : s < 1024) (hT : mg_T t E) (h : post (nI (mg_fr E s))) : ∀ n k, k + n = 10 → wX_freeVertices_4 post (nI s) f t (n + 1) (nI (mg_set (mg_fb E s) k)) (nI k) := by
  intro n
  induction n with
  | zero =>
    intro k hk
    have : k = 10 := by omega
    subst this
    rw [wX_freeVertices_4]
    exact br_t (nI_le (Nat.le_refl 10) (by decide)) h
  | succ n ih =>
    intro k hk
    have IH := ih (k + 1) (by omega)
    rw [wX_freeVertices_4]
    refine br_f (nI_ge (b := 10) (by omega) (by decide)) ?_
    refine xw_isFree hs (by omega) hT (mg_bi_c (fun q => ?_) (fun q => ?_))
    · rw [mg_set_f (by rw [q]; decide)] at IH
      exact nm_r (nI_1 k) IH
    · rw [mg_set_t q] at IH
      exact nm_r (mg_adI _ (by omega)) (nm_r (nI_1 k) IH)
theorem xw_fv {post : Int32 → Prop} {f t : Nat → Int32} {E : Nat → Nat} {s : Nat} (hs : s < 1024) (hT : mg_T t E) (h : post (nI (mg_fr E s))) : wpX_freeVertices post (nI s, f, t) := ⟨11, xw_fv_4 hs hT h 10 0 rfl⟩
theorem xw_partOf {post : Int32 → Prop} {f t : Nat → Int32} {E : Nat → Nat} {s v : Nat} (hs : s < 1024) (hv : v < 10) (hA : mg_A f E) (h : post (nI (mg_po E s v))) : wpX_partOf post (nI s, f, t) (nI v) (nI (mg_fr E s)) := by
  unfold wpX_partOf
  dsimp only
  unfold mg_po at h
  refine xw_hasC rfl rfl hs hv (fun q => ?_) (fun q => ?_)
  · rw [if_neg (by rw [q]; decide)] at h
    exact h
  · rw [if_pos q] at h
    refine xw_hasC rfl rfl (mg_fr_lt E s) hv (fun q2 => ?_) (fun q2 => ?_)
    · rw [if_neg (fun c => by rw [mg_fr_i.2 ⟨hv, q, c⟩] at q2; exact absurd q2 (by decide))] at h
      refine ⟨vp_in_nI hv (by decide), ?_⟩
      have hl : E v &&& mg_fr E s < 1024 := Nat.lt_of_le_of_lt Nat.and_le_right (mg_fr_lt E s)
      refine pk_eq (E v &&& mg_fr E s) 0 (fun c => ?_) (fun c => ?_) (by rw [mg_Ar hA hv, nx_and])
      · rw [if_neg (mg_po_x.1 c)] at h
        exact h
      · rw [if_pos (Decidable.byContradiction (fun d => c (mg_po_x.2 d)))] at h
        exact h
    · rw [if_pos (mg_fr_i.1 q2).2.2] at h
      exact h
end
section
def mg_me (E : Nat → Nat) (s : Nat) (p : Int32) (v : Nat) : Bool := decide (nI (mg_po E s v) = p)
theorem xw_mem_27 {post : Int32 → Prop} {f t : Nat → Int32} {E : Nat → Nat} {s : Nat} {p : Int32} (hs : s < 1024) (hA : mg_A f E) (h : post (nI (mg_set (mg_me E s p) 10))) : ∀ n k, k + n = 10 → wX_members_27 post p (nI (mg_fr E s)) (nI s) f t (n + 1) (nI (mg_set (mg_me E s p) k)) (nI k) := by
  intro n
  induction n with
  | zero =>
    intro k hk
    have : k = 10 := by omega
    subst this
    rw [wX_members_27]
    exact br_t (nI_le (Nat.le_refl 10) (by decide)) h
  | succ n ih =>
    intro k hk
    have IH := ih (k + 1) (by omega)
    rw [wX_members_27]
    refine br_f (nI_ge (b := 10) (by omega) (by decide)) ?_
    refine xw_partOf hs (by omega) hA (br_c (fun q => ?_) (fun q => ?_))
    · rw [mg_set_t (decide_eq_true q)] at IH
      exact nm_r (mg_adI _ (by omega)) (nm_r (nI_1 k) IH)
    · rw [mg_set_f (fun c => q (of_decide_eq_true c))] at IH
      exact nm_r (nI_1 k) IH
theorem xw_mem_17 {post : Int32 → Prop} {f t : Nat → Int32} {E : Nat → Nat} {s : Nat} {p : Int32} (hs : s < 1024) (hA : mg_A f E) (hT : mg_T t E) (h : post (nI (mg_set (mg_me E s p) 10))) : wX_members_17 post p (nI s) f t := by
  unfold wX_members_17
  exact xw_fv hs hT ⟨11, xw_mem_27 hs hA h 10 0 rfl⟩
theorem xw_nb_4 {post : Int32 → Prop} {o : Int32} {f t : Nat → Int32} {E : Nat → Nat} {g : Nat} (hg : g < 1024) (hA : mg_A f E) (h : post (nI (mg_nb E g 10))) : ∀ n k, k + n = 10 → wX_neighboursOf_4 post (nI g) o f t (n + 1) (nI (mg_nb E g k)) (nI k) := by
  intro n
  induction n with
  | zero =>
    intro k hk
    have : k = 10 := by omega
    subst this
    rw [wX_neighboursOf_4]
    exact br_t (nI_le (Nat.le_refl 10) (by decide)) h
  | succ n ih =>
    intro k hk
    have IH := ih (k + 1) (by omega)
    have hk10 : k < 10 := by omega
    rw [wX_neighboursOf_4]
    refine br_f (nI_ge (b := 10) (by omega) (by decide)) ?_
    refine xw_hasC rfl rfl hg hk10 (fun q => ?_) (fun q => ?_)
    · rw [mg_nb_f (by rw [q]; decide)] at IH
      exact nm_r (nI_1 k) IH
    · rw [mg_nb_t q] at IH
      refine ⟨vp_in_nI hk10 (by decide), nm_r (e' := nI (mg_nb E g k ||| E k)) (by rw [mg_Ar hA hk10, mg_or]) ?_⟩
      exact nm_r (nI_1 k) IH
theorem xw_nb {post : Int32 → Prop} {o : Int32} {f t : Nat → Int32} {E : Nat → Nat} {g : Nat} (hg : g < 1024) (hA : mg_A f E) (h : post (nI (mg_nb E g 10))) : wpX_neighboursOf post (o, f, t) (nI g) := ⟨11, xw_nb_4 hg hA h 10 0 rfl⟩
theorem xw_go_7 {post : Int32 → Prop} {o : Int32} {f t : Nat → Int32} {E : Nat → Nat} {d : Nat} (hA : mg_A f E) (hG : mg_G E) : ∀ n k g, k + n = 10 → g < 1024 → post (nI (mg_it E d n g)) → wX_groupOf_7 post (nI d) o f t (n + 1) (nI g) (nI k) := by
  intro n
  induction n with
  | zero =>
    intro k g hk hg h
    have : k = 10 := by omega
    subst this
    rw [wX_groupOf_7]
    exact br_t (nI_le (Nat.le_refl 10) (by decide)) h
  | succ n ih =>
    intro k g hk hg h
    rw [wX_groupOf_7]
    refine br_f (nI_ge (b := 10) (by omega) (by decide)) ?_
    refine xw_nb hg hA ?_
    refine nm_r (e' := nI (mg_st E d g)) (by rw [nx_and, mg_or]; rfl) ?_
    exact nm_r (nI_1 k) (ih (k + 1) (mg_st E d g) (by omega) (mg_st_s hG.1 g hg).1 h)
theorem xw_go {post : Int32 → Prop} {o : Int32} {f t : Nat → Int32} {E : Nat → Nat} {d v : Nat} (hv : v < 10) (hA : mg_A f E) (hG : mg_G E) (h : post (nI (mg_comp E d v))) : wpX_groupOf post (o, f, t) (nI v) (nI d) := by
  unfold wpX_groupOf
  dsimp only
  exact nm_r (mg_p2 hv) ⟨10, xw_go_7 hA hG 9 1 (2 ^ v) rfl (mg_p2lt hv) h⟩
theorem xw_gr_12 {post : Int32 → Prop} {o : Int32} {f t : Nat → Int32} {E : Nat → Nat} {d : Nat} (hA : mg_A f E) (hG : mg_G E) : ∀ n k l c, k + n = 10 → l < 1024 → post (nI (c + mg_cx (mg_comp E d) n k l)) → wX_groups_12 post (nI d) o f t (n + 1) (nI l) (nI c) (nI k) := by
  intro n
  induction n with
  | zero =>
    intro k l c hk hl h
    have : k = 10 := by omega
    subst this
    rw [wX_groups_12]
    exact br_t (nI_le (Nat.le_refl 10) (by decide)) h
  | succ n ih =>
    intro k l c hk hl h
    have hk10 : k < 10 := by omega
    rw [wX_groups_12]
    refine br_f (nI_ge (b := 10) (by omega) (by decide)) ?_
    refine xw_hasC rfl rfl hl hk10 (fun q => ?_) (fun q => ?_)
    · rw [mg_cx_f (by rw [q]; decide)] at h
      exact nm_r (nI_1 k) (ih (k + 1) l c (by omega) hl h)
    · rw [mg_cx_t q] at h
      refine xw_go hk10 hA hG ?_
      refine nm_r (mg_sdI l _) (nm_r (nI_1 c) (nm_r (nI_1 k) ?_))
      refine ih (k + 1) _ (c + 1) (by omega) (mg_sd_1 hl) ?_
      rw [show c + 1 + mg_cx (mg_comp E d) n (k + 1) (mg_sd l (mg_comp E d k)) = c + (mg_cx (mg_comp E d) n (k + 1) (mg_sd l (mg_comp E d k)) + 1) from by omega]
      exact h
theorem xw_ct {post : Int32 → Prop} {o : Int32} {f t : Nat → Int32} {E : Nat → Nat} {l w u : Nat} (hl : l < 1024) (hw : w < 10) (hu : u < 10) (hA : mg_A f E) (hE : E w < 1024) (hT : mg_T t E) (h : post (mg_bi (mg_cn E l w u))) : wpX_canTake post (o, f, t) (nI l) (nI w) (nI u) := by
  unfold wpX_canTake
  dsimp only
  have hr : mg_rm (mg_rm l w) u < 1024 := mg_rm_1 (mg_rm_1 hl)
  have b1 := mg_M_b E hl
  have b2 := mg_M_b E hr
  have N : ¬ mg_cn E l w u = true → post 0 := fun c => by
    rw [mg_bi_f (mg_ff c)] at h
    exact h
  refine xw_hasC rfl rfl hl hw (fun q => N (fun c => ?_)) (fun q => ?_)
  · rw [(mg_cn_i.1 c).1] at q
    exact absurd q (by decide)
  refine xw_hasC rfl rfl hl hu (fun q2 => N (fun c => ?_)) (fun q2 => ?_)
  · rw [(mg_cn_i.1 c).2.1] at q2
    exact absurd q2 (by decide)
  refine ⟨vp_in_nI hw (by decide), xw_hasC (mg_Ar hA hw) rfl hE hu (fun q3 => N (fun c => ?_)) (fun q3 => ?_)⟩
  · rw [(mg_cn_i.1 c).2.2.1] at q3
    exact absurd q3 (by decide)
  refine xw_sizeWith hl hw hu (hT _ hr) ⟨vp_in_nI hl (by decide), ?_⟩
  refine pk_eq (mg_M E (mg_rm (mg_rm l w) u) + 1) (mg_M E l) (fun c => ?_) (fun c => ?_) rfl (mg_Tr hT hl)
  · rw [mg_bi_t (mg_cn_i.2 ⟨q, q2, q3, c⟩)] at h
    exact h
  · exact N (fun d => c (mg_cn_i.1 d).2.2.2)
theorem xw_fp_2 {post : Int32 → Prop} {o : Int32} {f t : Nat → Int32} {E : Nat → Nat} {l w : Nat} (hl : l < 1024) (hw : w < 10) (hA : mg_A f E) (hE : E w < 1024) (hT : mg_T t E) : ∀ n k, k + n = 10 → post (mg_vo (mg_fs (fun u => mg_cn E l w u) n k)) → wX_firstPartner_2 post (nI l) (nI w) o f t (n + 1) (nI k) := by
  intro n
  induction n with
  | zero =>
    intro k hk h
    have : k = 10 := by omega
    subst this
    rw [wX_firstPartner_2]
    exact br_t (nI_le (Nat.le_refl 10) (by decide)) h
  | succ n ih =>
    intro k hk h
    rw [wX_firstPartner_2]
    refine br_f (nI_ge (b := 10) (by omega) (by decide)) ?_
    refine xw_ct hl hw (by omega) hA hE hT (mg_bi_c (fun q => ?_) (fun q => ?_))
    · rw [mg_fs_f (by rw [q]; decide)] at h
      exact nm_r (nI_1 k) (ih (k + 1) (by omega) h)
    · rw [mg_fs_t q, mg_vo_1 (by omega)] at h
      exact h
theorem xw_fp {post : Int32 → Prop} {o : Int32} {f t : Nat → Int32} {E : Nat → Nat} {l w : Nat} (hl : l < 1024) (hw : w < 10) (hA : mg_A f E) (hE : E w < 1024) (hT : mg_T t E) (h : post (mg_vo (mg_fp E l w))) : wpX_firstPartner post (o, f, t) (nI l) (nI w) := ⟨11, xw_fp_2 hl hw hA hE hT 10 0 rfl h⟩
theorem xw_pr_45 {post : Int32 → Prop} {J : Int32 → Int32 → Prop} {o : Int32} {f t : Nat → Int32} {v l w p : Nat} (hv : v < 10) (hw : w < 10) (hl : l < 1024) (hp : p ≤ 10) (h1 : p = v → post (nI w)) (h2 : ¬ p = v → J (nI (mg_rm (mg_rm l w) p)) (nI (w + 1))) : wX_partner_45 post J (nI v) (nI l) (nI w) (mg_vo p) o f t := by
  unfold wX_partner_45
  by_cases c : p < 10
  · rw [mg_vo_1 c]
    refine pk_eq p v h1 (fun q => ?_)
    refine xw_without rfl rfl hw (br_f (mg_ne2 p c) ?_)
    exact xw_without rfl rfl c (nm_r (nI_1 w) (h2 q))
  · have : p = 10 := by omega
    rw [mg_vo_2 c]
    have q : ¬ p = v := by omega
    have hn : (mg_rm l w).testBit p = false := mg_ff (fun d => by
      have := mg_bit_lt (mg_rm_1 hl) d
      omega)
    have H := h2 q
    rw [mg_rm_n hn] at H
    refine br_f (fun e => mg_ne2 v hv e.symm) ?_
    exact xw_without rfl rfl hw (br_t rfl (nm_r (nI_1 w) H))
theorem xw_pr_16 {post : Int32 → Prop} {o : Int32} {f t : Nat → Int32} {E : Nat → Nat} {v : Nat} (hv : v < 10) (hA : mg_A f E) (hG : mg_G E) (hT : mg_T t E) : ∀ n w l, w + n = 10 → l < 1024 → post (mg_vo (mg_pt E v n w l)) → wX_partner_16 post (nI v) o f t (n + 1) (nI l) (nI w) := by
  intro n
  induction n with
  | zero =>
    intro w l hw hl h
    have : w = 10 := by omega
    subst this
    rw [wX_partner_16]
    exact br_t (nI_le (Nat.le_refl 10) (by decide)) h
  | succ n ih =>
    intro w l hw hl h
    have hw10 : w < 10 := by omega
    have hp := mg_fp_le E l w
    rw [wX_partner_16]
    refine br_f (nI_ge (b := 10) (by omega) (by decide)) ?_
    refine xw_fp hl hw10 hA (hG.1 w hw10) hT ?_
    have S : ¬ (w = v ∧ mg_fp E l w < 10) → wX_partner_45 post (wX_partner_16 post (nI v) o f t (n + 1)) (nI v) (nI l) (nI w) (mg_vo (mg_fp E l w)) o f t := by
      intro c
      refine xw_pr_45 hv hw10 hl hp (fun q => ?_) (fun q => ?_)
      · rw [mg_pt_2 c q, mg_vo_1 hw10] at h
        exact h
      · rw [mg_pt_3 c q] at h
        exact ih (w + 1) _ (by omega) (mg_rm_1 (mg_rm_1 hl)) h
    refine pk_eq w v (fun q => ?_) (fun q => S (fun c => q c.1))
    by_cases c : mg_fp E l w < 10
    · rw [mg_vo_1 c]
      refine br_f (mg_ne2 _ c) ?_
      rw [mg_pt_1 ⟨q, c⟩, mg_vo_1 c] at h
      exact h
    · have S' := S (fun d => c d.2)
      rw [mg_vo_2 c] at S' ⊢
      exact br_t rfl S'
theorem xw_ia_33 {post : Int32 → Prop} {f t : Nat → Int32} {E : Nat → Nat} {s a b : Nat} (hs : s < 1024) (ha : a < 10) (hb : b < 10) (hA : mg_A f E) (hG : mg_G E) (hT : mg_T t E) (h1 : (∀ u, u < 10 → u ≠ b → mg_cn E s a u = false) → post 1) (h0 : (∃ u, u < 10 ∧ u ≠ b ∧ mg_cn E s a u = true) → post 0) : ∀ n k, k + n = 10 → (∀ u, u < k → u ≠ b → mg_cn E s a u = false) → wX_inAll_33 post (nI a) (nI b) (nI s) f t (n + 1) (nI k) := by
  intro n
  induction n with
  | zero =>
    intro k hk hu
    have : k = 10 := by omega
    subst this
    rw [wX_inAll_33]
    exact br_t (nI_le (Nat.le_refl 10) (by decide)) (h1 hu)
  | succ n ih =>
    intro k hk hu
    have hk10 : k < 10 := by omega
    rw [wX_inAll_33]
    refine br_f (nI_ge (b := 10) (by omega) (by decide)) ?_
    refine pk_eq k b (fun q => nm_r (nI_1 k) (ih (k + 1) (by omega) (fun u hu1 hu2 => hu u (by omega) hu2))) (fun q => ?_)
    refine xw_ct hs ha hk10 hA (hG.1 a ha) hT (mg_bi_c (fun c => ?_) (fun c => h0 ⟨k, hk10, q, c⟩))
    refine nm_r (nI_1 k) (ih (k + 1) (by omega) (fun u hu1 hu2 => ?_))
    rcases Nat.lt_or_eq_of_le (Nat.le_of_lt_succ hu1) with z | z
    · exact hu u z hu2
    · rw [z]
      exact c
theorem xw_join {post : Int32 → SX → Prop} {o : Int32} {f t : Nat → Int32} {E : Nat → Nat} {a b : Nat} (ha : a < 10) (hb : b < 10) (hab : a ≠ b) (hA : mg_A f E) (hG : mg_G E) (h : ∀ f', mg_A f' (mg_ad E a b) → post (nI (mg_no ((E a).testBit b))) (o, f', t)) : wpX_join post (o, f, t) (nI a) (nI b) := by
  unfold wpX_join
  dsimp only
  have H : ∀ z : Int32, z = nI (mg_no ((E a).testBit b)) → wX_join_18 post (nI a) (nI b) z o f t := by
    intro z hz
    subst hz
    unfold wX_join_18
    have ia : vp_in (nI a) 10 := vp_in_nI ha (by decide)
    have ib : vp_in (nI b) 10 := vp_in_nI hb (by decide)
    refine ⟨ia, ia, ?_⟩
    refine nm_r (e' := upd f a (nI (E a ||| 2 ^ b))) (by rw [mg_Ar hA ha, nI_clamp (by omega), mg_adI _ hb]) ⟨ib, ib, ?_⟩
    refine nm_r (e' := upd (upd f a (nI (E a ||| 2 ^ b))) b (nI (E b ||| 2 ^ a))) (by rw [nI_clamp (by omega), pk_un (Ne.symm hab), hA b hb, mg_adI _ ha]) ?_
    exact h _ (mg_A_ad ha hb hab hA)
  refine ⟨vp_in_nI ha (by decide), xw_hasC (mg_Ar hA ha) rfl (hG.1 a ha) hb (fun q => H 1 ?_) (fun q => H 0 ?_)⟩
  · rw [q]
    rfl
  · rw [q]
    rfl
theorem xw_sep {post : SX → Prop} {o : Int32} {f t : Nat → Int32} {E : Nat → Nat} {a b : Nat} (ha : a < 10) (hb : b < 10) (hab : a ≠ b) (hA : mg_A f E) (h : ∀ f', mg_A f' (mg_cu E a b) → post (o, f', t)) : wpX_separate post (o, f, t) (nI a) (nI b) := by
  unfold wpX_separate
  dsimp only
  have ia : vp_in (nI a) 10 := vp_in_nI ha (by decide)
  have ib : vp_in (nI b) 10 := vp_in_nI hb (by decide)
  refine ⟨ia, xw_without (mg_Ar hA ha) rfl hb ⟨ia, ?_⟩⟩
  refine nm_r (e' := upd f a (nI (mg_rm (E a) b))) (by rw [nI_clamp (by omega)]) ⟨ib, ?_⟩
  refine xw_without (s := E b) (by rw [nI_clamp (by omega), pk_un (Ne.symm hab), hA b hb]) rfl ha ⟨ib, ?_⟩
  refine nm_r (e' := upd (upd f a (nI (mg_rm (E a) b))) b (nI (mg_rm (E b) a))) (by rw [nI_clamp (by omega)]) ?_
  exact h _ (mg_A_cu ha hb hab hA)
theorem xw_edge_50 {post : Int32 → SX → Prop} {z o : Int32} {f t : Nat → Int32} {E : Nat → Nat} (hA : mg_A f E) (hG : mg_G E) (h : ∀ t', mg_T t' E → post z (o, f, t')) : wX_edge_50 post z o f t := by
  unfold wX_edge_50
  exact xw_measure hA hG (fun t' ht => h t' ht)
theorem xw_ci_33 {post : Int32 → SX → Prop} {o : Int32} {E : Nat → Nat} {a b c0 : Nat} (hab : a + 2 ≤ b) (hb : b < 10) (h : ∀ f t E', mg_A f E' → mg_XI E a b b E' → mg_T t E' → post (nI (c0 + mg_sm E a (b - a))) (o, f, t)) : ∀ n v f t E', v + n = b → a ≤ v → mg_A f E' → mg_XI E a b v E' → wX_circle_33 post (nI b) (n + 1) (nI (c0 + mg_sm E a (v - a))) (nI v) o f t := by
  intro n
  induction n with
  | zero =>
    intro v f t E' hv hav hA hX
    have : v = b := by omega
    subst this
    rw [wX_circle_33]
    exact br_t (nI_le (Nat.le_refl v) (by omega)) (xw_measure hA hX.1 (fun t' ht => h f t' E' hA hX ht))
  | succ n ih =>
    intro v f t E' hv hav hA hX
    rw [wX_circle_33]
    refine br_f (nI_ge (by omega) (by omega)) ?_
    rw [nI_1 v]
    refine xw_join (by omega) (by omega) (by omega) hA hX.1 (fun f' hf => ?_)
    refine nm_r (e' := nI (c0 + mg_sm E a (v + 1 - a))) (by rw [mg_XI_o hX hab hav (by omega), nI_add, mg_sm_s E hav, Nat.add_assoc]) ?_
    refine nm_r rfl ?_
    exact ih (v + 1) f' t _ (by omega) (by omega) hf (mg_XI_s hX hav (by omega) hb)
end
section
theorem yw_has {post : Int32 → Prop} {o : Int32} {f t : Nat → Int32} {x y : Int32} {s v : Nat} (hx : x = nI s) (hy : y = nI v) (hs : s < 1024) (hv : v < 10) (h : post (mg_bi (s.testBit v))) : wpY_has post (o, f, t) x y := by
  subst hx
  subst hy
  unfold wpY_has
  dsimp only
  refine mg_hc hs hv (fun q => ?_) (fun q => ?_)
  · rw [mg_bi_t q] at h
    exact h
  · rw [mg_bi_f q] at h
    exact h
theorem yw_hasC {o : Int32} {f t : Nat → Int32} {x y : Int32} {s v : Nat} {A B : Prop} (hx : x = nI s) (hy : y = nI v) (hs : s < 1024) (hv : v < 10) (c : s.testBit v = false → A) (d : s.testBit v = true → B) : wpY_has (fun r => (r = 0 → A) ∧ (¬ r = 0 → B)) (o, f, t) x y := yw_has hx hy hs hv (mg_bi_c c d)
theorem yw_bad_g {post : Int32 → Prop} {o : Int32} {f t : Nat → Int32} {v : Nat} (hv : v < 10) (h : post 0) : wpY_bad post (o, f, t) (nI v) := by
  unfold wpY_bad
  dsimp only
  exact br_f (nI_pos (by omega)) (br_t (nI_le (b := 9) (by omega) (by decide)) h)
theorem yw_bad_b {post : Int32 → Prop} {o : Int32} {f t : Nat → Int32} {x : Int32} (hx : x < 0 ∨ nI 10 ≤ x) (h : post 1) : wpY_bad post (o, f, t) x := by
  unfold wpY_bad
  dsimp only
  refine br_c (fun _ => h) (fun q => br_c (fun q2 => ?_) (fun _ => h))
  rcases hx with hx | hx
  · exact absurd hx q
  · exact absurd (Int32.le_trans hx q2) (by decide)
theorem yw_badC {o : Int32} {f t : Nat → Int32} {x : Int32} {A B : Prop} (c : ∀ v, v < 10 → x = nI v → A) (d : (x < 0 ∨ nI 10 ≤ x) → B) : wpY_bad (fun r => (r = 0 → A) ∧ (¬ r = 0 → B)) (o, f, t) x := by
  rcases pk_ix x (n := 10) (by decide) with h | h | ⟨v, hv, h⟩
  · exact yw_bad_b (Or.inl h) (br_f (by decide) (d (Or.inl h)))
  · exact yw_bad_b (Or.inr h) (br_f (by decide) (d (Or.inr h)))
  · rw [h]
    exact yw_bad_g hv (br_t rfl (c v hv h))
theorem yw_first_2 {post : Int32 → Prop} {o : Int32} {f t : Nat → Int32} {s : Nat} (hs : s < 1024) (h0 : ¬ s = 0) (h : post (nI (mg_lo s))) : ∀ n k, k + n = 10 → (∀ j, j < k → s.testBit j = false) → wY_first_2 post (nI s) o f t (n + 1) (nI k) := by
  intro n
  obtain ⟨l1, l2⟩ := mg_lo_s h0 hs
  have l10 := mg_bit_lt hs l1
  induction n with
  | zero =>
    intro k hk hj
    rw [hj (mg_lo s) (by omega)] at l1
    exact absurd l1 (by decide)
  | succ n ih =>
    intro k hk hj
    rw [wY_first_2]
    refine br_f (nI_ge (b := 10) (by omega) (by decide)) ?_
    refine yw_hasC rfl rfl hs (by omega) (fun q => ?_) (fun q => ?_)
    · refine nm_r (nI_1 k) (ih (k + 1) (by omega) (fun j hj' => ?_))
      rcases Nat.lt_or_eq_of_le (Nat.le_of_lt_succ hj') with z | z
      · exact hj j z
      · rw [z]
        exact q
    · rw [mg_lo_u hs q hj] at h
      exact h
theorem yw_first {post : Int32 → Prop} {o : Int32} {f t : Nat → Int32} {s : Nat} (hs : s < 1024) (h0 : ¬ s = 0) (h : post (nI (mg_lo s))) : wpY_first post (o, f, t) (nI s) := ⟨11, yw_first_2 hs h0 h 10 0 rfl (fun j hj => absurd hj (Nat.not_lt_zero j))⟩
theorem yw_fill_41 {post : SY → Prop} {J : Int32 → (Nat → Int32) → (Nat → Int32) → Prop} {o : Int32} {f t : Nat → Int32} {E : Nat → Nat} {s v : Nat} (hs : s < 1024) (hv : v < 10) (hsv : s.testBit v = true) (hA : mg_A f E) (hE : E v < 1024) (ht : ∀ j, j < s → t j = nI (mg_M E j)) (h : J (nI (s + 1)) f (upd t s (nI (mg_best (mg_M E) (E v) (mg_rm s v) 10)))) : ∀ n k, k + n = 10 → wY_fill_41 post J (nI s) (nI v) (nI (mg_rm s v)) o f t (n + 1) (nI (mg_best (mg_M E) (E v) (mg_rm s v) k)) (nI k) := by
  intro n
  have hr := mg_rm_lt hsv
  have hr1 : mg_rm s v < 1024 := by omega
  induction n with
  | zero =>
    intro k hk
    have : k = 10 := by omega
    subst this
    rw [wY_fill_41]
    refine br_t (nI_le (Nat.le_refl 10) (by decide)) ⟨vp_in_nI hs (by decide), ?_⟩
    exact nm_r (e' := upd t s (nI (mg_best (mg_M E) (E v) (mg_rm s v) 10))) (by rw [nI_clamp (by omega)]) (nm_r (nI_1 s) h)
  | succ n ih =>
    intro k hk
    have hk10 : k < 10 := by omega
    have hu := mg_rm_le (mg_rm s v) k
    have b1 := mg_best_b (E := E) (e := E v) hr1 k
    have b2 := mg_M_b E (s := mg_rm (mg_rm s v) k) (by omega)
    have IH := ih (k + 1) (by omega)
    rw [wY_fill_41]
    refine br_f (nI_ge (b := 10) (by omega) (by decide)) ?_
    refine yw_hasC rfl rfl hr1 hk10 (fun q => ?_) (fun q => ?_)
    · rw [mg_best_f (fun c => by rw [c.1] at q; exact absurd q (by decide))] at IH
      exact nm_r (nI_1 k) IH
    · refine ⟨vp_in_nI hv (by decide), yw_hasC (mg_Ar hA hv) rfl hE hk10 (fun q2 => ?_) (fun q2 => ?_)⟩
      · rw [mg_best_f (fun c => by rw [c.2.1] at q2; exact absurd q2 (by decide))] at IH
        exact nm_r (nI_1 k) IH
      · rw [mg_rmI _ hk10]
        have e : t (nI (mg_rm (mg_rm s v) k)).toNatClampNeg + 1 = nI (mg_M E (mg_rm (mg_rm s v) k) + 1) := by
          rw [nI_clamp (by omega), ht _ (by omega), nI_1]
        have vi : vp_in (nI (mg_rm (mg_rm s v) k)) 1024 := vp_in_nI (by omega) (by decide)
        refine ⟨vi, pk_le (mg_M E (mg_rm (mg_rm s v) k) + 1) (mg_best (mg_M E) (E v) (mg_rm s v) k) (fun c => ?_) (fun c => ?_) e⟩
        · rw [mg_best_f (fun d => by have := d.2.2; omega)] at IH
          exact nm_r (nI_1 k) IH
        · rw [mg_best_t ⟨q, q2, c⟩] at IH
          exact ⟨vi, nm_r e (nm_r (nI_1 k) IH)⟩
theorem yw_fill_9 {post : SY → Prop} {o : Int32} {f : Nat → Int32} {E : Nat → Nat} (hA : mg_A f E) (hG : mg_G E) (h : ∀ t', mg_T t' E → post (o, f, t')) : ∀ n k (t : Nat → Int32), k + n = 1024 → 1 ≤ k → (∀ j, j < k → t j = nI (mg_M E j)) → wY_fill_9 post o (n + 1) (nI k) f t := by
  intro n
  induction n with
  | zero =>
    intro k t hk h1 ht
    have : k = 1024 := by omega
    subst this
    rw [wY_fill_9]
    exact br_t (nI_le (Nat.le_refl 1024) (by decide)) (h t ht)
  | succ n ih =>
    intro k t hk h1 ht
    have k0 : ¬ k = 0 := by omega
    have ks : k < 1024 := by omega
    obtain ⟨l1, l2⟩ := mg_lo_s k0 ks
    have l10 := mg_bit_lt ks l1
    have hl := mg_rm_lt l1
    rw [wY_fill_9]
    refine br_f (nI_ge (b := 1024) (by omega) (by decide)) ?_
    refine yw_first ks k0 ?_
    refine nm_r (mg_rmI k l10) ⟨vp_in_nI (by omega) (by decide), ?_⟩
    refine nm_r (e' := nI (mg_best (mg_M E) (E (mg_lo k)) (mg_rm k (mg_lo k)) 0)) (by rw [nI_clamp (by omega), ht _ hl]; rfl) ⟨11, ?_⟩
    refine yw_fill_41 ks l10 l1 hA (hG.1 _ l10) ht ?_ 10 0 rfl
    rw [← mg_M_s k0 ks]
    refine ih (k + 1) _ (by omega) (by omega) (fun j hj => ?_)
    rcases Nat.lt_or_eq_of_le (Nat.le_of_lt_succ hj) with q | q
    · rw [pk_un (by omega)]
      exact ht j q
    · rw [q, pk_us]
theorem yw_fill {post : SY → Prop} {o : Int32} {f t : Nat → Int32} {E : Nat → Nat} (hA : mg_A f E) (hG : mg_G E) (h : ∀ t', mg_T t' E → post (o, f, t')) : wpY_fill post (o, f, t) := by
  unfold wpY_fill
  dsimp only
  refine nm_e ⟨1024, ?_⟩
  refine yw_fill_9 hA hG h 1023 1 _ rfl (by decide) (fun j hj => ?_)
  have : j = 0 := by omega
  rw [this, pk_us, mg_M_0]
  rfl
theorem yw_count_4 {post : Int32 → Prop} {o : Int32} {f t : Nat → Int32} {s : Nat} (hs : s < 1024) (h : post (nI (mg_cd s))) : ∀ n k, k + n = 10 → wY_count_4 post (nI s) o f t (n + 1) (nI (mg_ct (fun i => s.testBit i) k)) (nI k) := by
  intro n
  induction n with
  | zero =>
    intro k hk
    have : k = 10 := by omega
    subst this
    rw [wY_count_4]
    exact br_t (nI_le (Nat.le_refl 10) (by decide)) h
  | succ n ih =>
    intro k hk
    rw [wY_count_4]
    refine br_f (nI_ge (b := 10) (by omega) (by decide)) ?_
    refine nm_r (e' := nI (mg_ct (fun i => s.testBit i) (k + 1))) (by rw [mg_has hs (by omega), nI_add]; rfl) ?_
    exact nm_r (nI_1 k) (ih (k + 1) (by omega))
theorem yw_count {post : Int32 → Prop} {o : Int32} {f t : Nat → Int32} {s : Nat} (hs : s < 1024) (h : post (nI (mg_cd s))) : wpY_count post (o, f, t) (nI s) := ⟨11, yw_count_4 hs h 10 0 rfl⟩
theorem yw_po_45 {post : Int32 → Prop} {f t : Nat → Int32} {E : Nat → Nat} {s v : Nat} (hs : s < 1024) (hv : v < 10) (hA : mg_A f E) (hT : mg_T t E) : ∀ n k, k + n = 10 → post (if mg_fs (mg_bd E s v) n k < 10 then 2 else 3) → wY_partOf_45 post (nI v) (nI s) f t (n + 1) (nI k) := by
  intro n
  induction n with
  | zero =>
    intro k hk h
    have : k = 10 := by omega
    subst this
    rw [wY_partOf_45]
    exact br_t (nI_le (Nat.le_refl 10) (by decide)) h
  | succ n ih =>
    intro k hk h
    have hk10 : k < 10 := by omega
    have hl : mg_rm s k < 1024 := mg_rm_1 hs
    have b1 := mg_M_b E hs
    have b2 := mg_M_b E hl
    rw [wY_partOf_45]
    refine br_f (nI_ge (b := 10) (by omega) (by decide)) ?_
    refine ⟨vp_in_nI hv (by decide), yw_hasC (s := s &&& E v) (by rw [mg_Ar hA hv, nx_and]) rfl (mg_an_1 hs) hk10 (fun q => ?_) (fun q => ?_)⟩
    · rw [mg_fs_f (fun c => by rw [mg_an (mg_bd_i.1 c).1.1 (mg_bd_i.1 c).1.2] at q; exact absurd q (by decide))] at h
      exact nm_r (nI_1 k) (ih (k + 1) (by omega) h)
    · rw [mg_rmI s hk10]
      refine ⟨vp_in_nI hl (by decide), vp_in_nI hs (by decide), ?_⟩
      refine pk_eq (mg_M E (mg_rm s k)) (mg_M E s) (fun c => ?_) (fun c => ?_) (mg_Tr hT hl) (mg_Tr hT hs)
      · rw [mg_fs_t (mg_bd_i.2 ⟨mg_an_e q, c⟩), if_pos hk10] at h
        exact h
      · rw [mg_fs_f (fun d => c (mg_bd_i.1 d).2)] at h
        exact nm_r (nI_1 k) (ih (k + 1) (by omega) h)
theorem yw_partOf {post : Int32 → Prop} {f t : Nat → Int32} {E : Nat → Nat} {s v : Nat} (hs : s < 1024) (hv : v < 10) (hA : mg_A f E) (hT : mg_T t E) (h : post (nI (mg_po E s v))) : wpY_partOf post (nI s, f, t) (nI v) := by
  unfold wpY_partOf
  dsimp only
  have hl : mg_rm s v < 1024 := mg_rm_1 hs
  have b1 := mg_M_b E hs
  have b2 := mg_M_b E hl
  unfold mg_po at h
  refine yw_hasC rfl rfl hs hv (fun q => ?_) (fun q => ?_)
  · rw [if_neg (by rw [q]; decide)] at h
    exact h
  · rw [if_pos q] at h
    rw [mg_rmI s hv]
    refine ⟨vp_in_nI hl (by decide), vp_in_nI hs (by decide), ?_⟩
    refine pk_eq (mg_M E (mg_rm s v)) (mg_M E s) (fun c => ?_) (fun c => ?_) (mg_Tr hT hl) (mg_Tr hT hs)
    · rw [if_pos c] at h
      exact h
    · rw [if_neg c] at h
      refine ⟨11, yw_po_45 hs hv hA hT 10 0 rfl ?_⟩
      by_cases z : mg_fs (mg_bd E s v) 10 0 < 10
      · rw [if_pos z] at h ⊢
        exact h
      · rw [if_neg z] at h ⊢
        exact h
def mg_my (E : Nat → Nat) (s : Nat) (p : Int32) (v : Nat) : Bool := decide (¬ p ≤ 0) && decide (nI (mg_po E s v) = p)
theorem mg_my_i {E : Nat → Nat} {s : Nat} {p : Int32} {v : Nat} : mg_my E s p v = true ↔ ¬ p ≤ 0 ∧ nI (mg_po E s v) = p := by
  unfold mg_my
  rw [Bool.and_eq_true, decide_eq_true_iff, decide_eq_true_iff]
theorem yw_mem_8 {post : Int32 → SY → Prop} {f t : Nat → Int32} {E : Nat → Nat} {s : Nat} {p : Int32} (hs : s < 1024) (hA : mg_A f E) (hT : mg_T t E) (h : post (nI (mg_set (mg_my E s p) 10)) (nI s, f, t)) : ∀ n k, k + n = 10 → wY_members_8 post p (nI s) f t (n + 1) (nI (mg_set (mg_my E s p) k)) (nI k) := by
  intro n
  induction n with
  | zero =>
    intro k hk
    have : k = 10 := by omega
    subst this
    rw [wY_members_8]
    exact br_t (nI_le (Nat.le_refl 10) (by decide)) h
  | succ n ih =>
    intro k hk
    have IH := ih (k + 1) (by omega)
    rw [wY_members_8]
    refine br_f (nI_ge (b := 10) (by omega) (by decide)) ?_
    refine br_c (fun q => ?_) (fun q => ?_)
    · rw [mg_set_f (fun c => (mg_my_i.1 c).1 q)] at IH
      exact nm_r (nI_1 k) IH
    · refine yw_partOf hs (by omega) hA hT (br_c (fun c => ?_) (fun c => ?_))
      · rw [mg_set_t (mg_my_i.2 ⟨q, c⟩)] at IH
        exact nm_r (mg_adI _ (by omega)) (nm_r (nI_1 k) IH)
      · rw [mg_set_f (fun d => c (mg_my_i.1 d).2)] at IH
        exact nm_r (nI_1 k) IH
theorem yw_members {post : Int32 → SY → Prop} {f t : Nat → Int32} {E : Nat → Nat} {s : Nat} {p : Int32} (hs : s < 1024) (hA : mg_A f E) (hG : mg_G E) (h : ∀ t', mg_T t' E → post (nI (mg_set (mg_my E s p) 10)) (nI s, f, t')) : wpY_members post (nI s, f, t) p := by
  unfold wpY_members
  dsimp only
  exact yw_fill hA hG (fun t' ht => ⟨11, yw_mem_8 hs hA ht (h t' ht) 10 0 rfl⟩)
end
section
theorem yw_ha_19 {post : Int32 → Prop} {J : Int32 → Int32 → Prop} {o : Int32} {f t : Nat → Int32} {E : Nat → Nat} {d g r : Nat} (hg : g < 1024) (hA : mg_A f E) (hG : mg_G E) (h : J (nI (mg_pa E d g 10)) (nI (r + 1))) : ∀ n k, k + n = 10 → wY_hang_19 post J (nI d) (nI r) o f t (n + 1) (nI (mg_pa E d g k)) (nI k) := by
  intro n
  induction n with
  | zero =>
    intro k hk
    have : k = 10 := by omega
    subst this
    rw [wY_hang_19]
    exact br_t (nI_le (Nat.le_refl 10) (by decide)) (nm_r (nI_1 r) h)
  | succ n ih =>
    intro k hk
    have hk10 : k < 10 := by omega
    have IH := ih (k + 1) (by omega)
    have hp := (mg_pa_s1 (d := d) hG.1 hg k (by omega)).1
    rw [wY_hang_19]
    refine br_f (nI_ge (b := 10) (by omega) (by decide)) ?_
    refine yw_hasC rfl rfl hp hk10 (fun q => ?_) (fun q => ?_)
    · rw [mg_pa_f (by rw [q]; decide)] at IH
      exact nm_r (nI_1 k) IH
    · rw [mg_pa_t q] at IH
      refine ⟨vp_in_nI hk10 (by decide), nm_r (e' := nI (mg_pa E d g k ||| (E k &&& d))) (by rw [mg_Ar hA hk10, nx_and, mg_or]) ?_⟩
      exact nm_r (nI_1 k) IH
theorem yw_ha_10 {post : Int32 → Prop} {o : Int32} {f t : Nat → Int32} {E : Nat → Nat} {d : Nat} (hA : mg_A f E) (hG : mg_G E) : ∀ n r g, r + n = 10 → g < 1024 → post (nI (mg_ip E d n g)) → wY_hang_10 post (nI d) o f t (n + 1) (nI g) (nI r) := by
  intro n
  induction n with
  | zero =>
    intro r g hr hg h
    have : r = 10 := by omega
    subst this
    rw [wY_hang_10]
    exact br_t (nI_le (Nat.le_refl 10) (by decide)) h
  | succ n ih =>
    intro r g hr hg h
    rw [wY_hang_10]
    refine br_f (nI_ge (b := 10) (by omega) (by decide)) ⟨11, ?_⟩
    exact yw_ha_19 hg hA hG (ih (r + 1) _ (by omega) (mg_pa_s1 hG.1 hg 10 (Nat.le_refl 10)).1 h) 10 0 rfl
theorem yw_hang {post : Int32 → Prop} {o : Int32} {f t : Nat → Int32} {E : Nat → Nat} {l : Nat} (hl : l < 1024) (h0 : ¬ l = 0) (hA : mg_A f E) (hG : mg_G E) (h : post (nI (mg_ip E l 10 (2 ^ mg_lo l)))) : wpY_hang post (o, f, t) (nI l) := by
  unfold wpY_hang
  dsimp only
  have l10 := mg_bit_lt hl (mg_lo_s h0 hl).1
  refine yw_first hl h0 ?_
  exact nm_r (mg_p2 l10) ⟨11, yw_ha_10 hA hG 10 0 _ rfl (mg_p2lt l10) h⟩
theorem yw_gr_10 {post : Int32 → SY → Prop} {o : Int32} {f t : Nat → Int32} {E : Nat → Nat} {F : Nat} (hA : mg_A f E) (hG : mg_G E) : ∀ n k l c, k + n = 10 → l < 1024 → (∀ j, j < k → l.testBit j = false) → mg_su l F → mg_cls E F l → post (nI (c + mg_cx (mg_comp E F) n k l)) (o, f, t) → wY_groups_10 post o f t (n + 1) (nI l) (nI c) (nI k) := by
  intro n
  induction n with
  | zero =>
    intro k l c hk hl hj hs hc h
    have : k = 10 := by omega
    subst this
    rw [wY_groups_10]
    exact br_t (nI_le (Nat.le_refl 10) (by decide)) h
  | succ n ih =>
    intro k l c hk hl hj hs hc h
    have hk10 : k < 10 := by omega
    rw [wY_groups_10]
    refine br_f (nI_ge (b := 10) (by omega) (by decide)) ?_
    refine pk_eq l 0 (fun q => ?_) (fun q => ?_)
    · refine nm_r (nI_1 k) (ih (k + 1) l c (by omega) hl ?_ hs hc ?_)
      · intro j _
        rw [q, Nat.zero_testBit]
      · rw [q, mg_cx_0] at h ⊢
        exact h
    · obtain ⟨f1, f2⟩ := mg_lo_s q hl
      have f10 := mg_bit_lt hl f1
      have hC := mg_comp_s (d := F) hG.1 f10
      have e := mg_left hs hc f1 hC (mg_hang_s (d := l) hG.1 f10)
      have e2 := mg_cx_y (C := mg_comp E F) hl q hk10 hj hC.2.1
      rw [show 10 - k = n + 1 from by omega, show 10 - (k + 1) = n from by omega] at e2
      rw [e2] at h
      obtain ⟨s1, s2⟩ := mg_left2 hG.2.1 hG.1 hs hc hC
      refine yw_hang hl q hA hG ?_
      rw [e]
      refine nm_r (mg_sdI l _) (nm_r (nI_1 c) (nm_r (nI_1 k) ?_))
      refine ih (k + 1) _ (c + 1) (by omega) (mg_sd_1 hl) ?_ s1 s2 ?_
      · intro j hj'
        refine mg_ff (fun z => ?_)
        obtain ⟨z1, z2⟩ := mg_sd_i.1 z
        have a1 : ¬ j < mg_lo l := fun y => by rw [f2 j y] at z1; exact absurd z1 (by decide)
        have a2 : ¬ mg_lo l < k := fun y => by rw [hj _ y] at f1; exact absurd f1 (by decide)
        have a3 : j = mg_lo l := by omega
        rw [a3, hC.2.1] at z2
        exact absurd z2 (by decide)
      · rw [show c + 1 + mg_cx (mg_comp E F) n (k + 1) (mg_sd l (mg_comp E F (mg_lo l))) = c + (mg_cx (mg_comp E F) n (k + 1) (mg_sd l (mg_comp E F (mg_lo l))) + 1) from by omega]
        exact h
def mg_v1 (p : Nat) : Int32 := if p < 10 then nI p else -1
theorem mg_v1_1 {p : Nat} (h : p < 10) : mg_v1 p = nI p := if_pos h
theorem mg_v1_2 {p : Nat} (h : ¬ p < 10) : mg_v1 p = -1 := if_neg h
theorem yw_le_2 {post : Int32 → Prop} {o : Int32} {f t : Nat → Int32} {E : Nat → Nat} {l w : Nat} (hl : l < 1024) (hw : w < 10) (hlw : l.testBit w = true) (hA : mg_A f E) (hT : mg_T t E) : ∀ n k, k + n = 10 → post (mg_v1 (mg_fs (fun u => mg_cn E l w u) n k)) → wY_least_2 post (nI w) (nI l) o f t (n + 1) (nI k) := by
  intro n
  induction n with
  | zero =>
    intro k hk h
    have : k = 10 := by omega
    subst this
    rw [wY_least_2]
    exact br_t (nI_le (Nat.le_refl 10) (by decide)) h
  | succ n ih =>
    intro k hk h
    have hk10 : k < 10 := by omega
    have hr : mg_rm (mg_rm l w) k < 1024 := mg_rm_1 (mg_rm_1 hl)
    have b1 := mg_M_b E hl
    have b2 := mg_M_b E hr
    rw [wY_least_2]
    refine br_f (nI_ge (b := 10) (by omega) (by decide)) ?_
    refine ⟨vp_in_nI hw (by decide), yw_hasC (s := l &&& E w) (by rw [mg_Ar hA hw, nx_and]) rfl (mg_an_1 hl) hk10 (fun q => ?_) (fun q => ?_)⟩
    · rw [mg_fs_f (fun c => by rw [mg_an (mg_cn_i.1 c).2.1 (mg_cn_i.1 c).2.2.1] at q; exact absurd q (by decide))] at h
      exact nm_r (nI_1 k) (ih (k + 1) (by omega) h)
    · rw [mg_rmI l hw, mg_rmI _ hk10]
      refine ⟨vp_in_nI hr (by decide), vp_in_nI hl (by decide), ?_⟩
      refine pk_eq (mg_M E (mg_rm (mg_rm l w) k) + 1) (mg_M E l) (fun c => ?_) (fun c => ?_) (by rw [mg_Tr hT hr, nI_1]) (mg_Tr hT hl)
      · rw [mg_fs_t (mg_cn_i.2 ⟨hlw, (mg_an_e q).1, (mg_an_e q).2, c⟩), mg_v1_1 hk10] at h
        exact h
      · rw [mg_fs_f (fun d => c (mg_cn_i.1 d).2.2.2)] at h
        exact nm_r (nI_1 k) (ih (k + 1) (by omega) h)
theorem yw_least {post : Int32 → Prop} {o : Int32} {f t : Nat → Int32} {E : Nat → Nat} {l w : Nat} (hl : l < 1024) (hw : w < 10) (hlw : l.testBit w = true) (hA : mg_A f E) (hT : mg_T t E) (h : post (mg_v1 (mg_fp E l w))) : wpY_least post (o, f, t) (nI w) (nI l) := ⟨11, yw_le_2 hl hw hlw hA hT 10 0 rfl h⟩
theorem yw_pr_21 {post : Int32 → SY → Prop} {o : Int32} {f t : Nat → Int32} {E : Nat → Nat} {v : Nat} (hv : v < 10) (hA : mg_A f E) (hT : mg_T t E) : ∀ n w l, w + n = 10 → l < 1024 → post (mg_vo (mg_pt E v n w l)) (o, f, t) → wY_partner_21 post (nI v) o f t (n + 1) (nI l) (nI w) := by
  intro n
  induction n with
  | zero =>
    intro w l hw hl h
    have : w = 10 := by omega
    subst this
    rw [wY_partner_21]
    exact br_t (nI_le (Nat.le_refl 10) (by decide)) h
  | succ n ih =>
    intro w l hw hl h
    have hw10 : w < 10 := by omega
    have hp := mg_fp_le E l w
    have h10 : ∀ m, m < 1024 → mg_rm m 10 = m := fun m hm => mg_rm_n (mg_ff (fun d => by
      have := mg_bit_lt hm d
      omega))
    rw [wY_partner_21]
    refine br_f (nI_ge (b := 10) (by omega) (by decide)) ?_
    refine yw_hasC rfl rfl hl hw10 (fun q => ?_) (fun q => ?_)
    · have e := mg_fp_n (E := E) q
      rw [mg_pt_3 (by omega) (by omega), e, mg_rm_n q, h10 l hl] at h
      exact nm_r (nI_1 w) (ih (w + 1) l (by omega) hl h)
    · refine yw_least hl hw10 q hA hT ?_
      have R : ¬ w = v → ¬ mg_fp E l w = v → wY_partner_82 post (wY_partner_21 post (nI v) o f t (n + 1)) (nI v) (nI l) (nI w) (mg_v1 (mg_fp E l w)) o f t := by
        intro c1 c2
        rw [mg_pt_3 (fun z => c1 z.1) c2] at h
        have H := ih (w + 1) _ (by omega) (mg_rm_1 (mg_rm_1 hl)) h
        unfold wY_partner_82
        refine nm_r (mg_rmI l hw10) ?_
        by_cases c : mg_fp E l w < 10
        · rw [mg_v1_1 c]
          exact br_t (nI_pos' (by omega)) (nm_r (mg_rmI _ c) (nm_r (nI_1 w) H))
        · rw [mg_v1_2 c]
          have e : mg_fp E l w = 10 := by omega
          rw [e, h10 _ (mg_rm_1 hl)] at H
          exact br_f (by decide) (nm_r (nI_1 w) H)
      refine pk_eq w v (fun c => ?_) (fun c => ?_)
      · unfold wY_partner_60
        refine br_t (by rw [c]) ?_
        by_cases d : mg_fp E l w < 10
        · rw [mg_pt_1 ⟨c, d⟩, mg_vo_1 d] at h
          rw [mg_v1_1 d]
          exact br_t (nI_pos' (by omega)) h
        · rw [mg_pt_3 (fun z => d z.2) (by omega), mg_pt_t hv _ _ _ (by omega) (by rw [mg_rm_b, mg_rm_b, decide_eq_true c]; simp), mg_vo_2 (by omega)] at h
          rw [mg_v1_2 d]
          exact br_f (by decide) h
      · by_cases d : mg_fp E l w = v
        · have d10 : mg_fp E l w < 10 := by omega
          rw [mg_v1_1 d10]
          rw [mg_pt_2 (fun z => c z.1) d, mg_vo_1 hw10] at h
          refine br_t (by rw [d]) (br_f (nI_pos (by omega)) ?_)
          unfold wY_partner_60
          exact br_f (fun z => c ((nI_eq (by omega) (by omega)).1 z)) h
        · refine br_f ?_ (R c d)
          by_cases d10 : mg_fp E l w < 10
          · rw [mg_v1_1 d10]
            exact fun z => d ((nI_eq (by omega) (by omega)).1 z)
          · rw [mg_v1_2 d10]
            exact fun z => mg_ne1 v hv z.symm
theorem yw_bo_b {post : Int32 → Prop} {o : Int32} {f t : Nat → Int32} {x y : Int32} (hxy : mg_bp x y) (h : post 0) : wpY_bothOn post (o, f, t) x y := by
  unfold wpY_bothOn
  dsimp only
  refine yw_badC (fun a ha hx => ?_) (fun _ => h)
  refine yw_badC (fun b hb hy => ?_) (fun _ => h)
  refine br_c (fun _ => h) (fun q => ?_)
  exact absurd (hxy a b ha hb (fun e => q (by rw [hx, hy, e])) hx hy) id
theorem yw_bo_g {post : Int32 → Prop} {f t : Nat → Int32} {s a b : Nat} (hs : s < 1024) (ha : a < 10) (hb : b < 10) (hab : a ≠ b) (h0 : ¬ (s.testBit a = true ∧ s.testBit b = true) → post 0) (h1 : s.testBit a = true → s.testBit b = true → post 1) : wpY_bothOn post (nI s, f, t) (nI a) (nI b) := by
  unfold wpY_bothOn
  dsimp only
  refine yw_bad_g ha (br_t rfl ?_)
  refine yw_bad_g hb (br_t rfl ?_)
  refine br_f (fun q => hab ((nI_eq (by omega) (by omega)).1 q)) ?_
  refine yw_hasC rfl rfl hs ha (fun q => h0 (fun c => by rw [c.1] at q; exact absurd q (by decide))) (fun q => ?_)
  refine yw_hasC rfl rfl hs hb (fun q2 => h0 (fun c => by rw [c.2] at q2; exact absurd q2 (by decide))) (fun q2 => h1 q q2)
theorem yw_without {post : Int32 → Prop} {f t : Nat → Int32} {E : Nat → Nat} {s a b : Nat} (hs : s < 1024) (ha : a < 10) (hb : b < 10) (hT : mg_T t E) (h : post (nI (mg_M E (mg_rm (mg_rm s a) b)))) : wpY_without post (nI s, f, t) (nI a) (nI b) := by
  unfold wpY_without
  dsimp only
  have hr : mg_rm (mg_rm s a) b < 1024 := mg_rm_1 (mg_rm_1 hs)
  rw [mg_rmI s ha, mg_rmI _ hb]
  refine ⟨vp_in_nI hr (by decide), ?_⟩
  rw [mg_Tr hT hr]
  exact h
theorem yw_put1 {post : SY → Prop} {o z : Int32} {f t : Nat → Int32} {E : Nat → Nat} {a b : Nat} (ha : a < 10) (hb : b < 10) (hab : a ≠ b) (hz : ¬ z = 0) (hA : mg_A f E) (h : ∀ f', mg_A f' (mg_ad E a b) → post (o, f', t)) : wpY_put post (o, f, t) (nI a) (nI b) z := by
  unfold wpY_put
  dsimp only
  have ia : vp_in (nI a) 10 := vp_in_nI ha (by decide)
  have ib : vp_in (nI b) 10 := vp_in_nI hb (by decide)
  refine br_f hz ⟨ia, ?_⟩
  unfold wY_put_34
  refine ⟨ia, nm_r (e' := upd f a (nI (E a ||| 2 ^ b))) (by rw [mg_Ar hA ha, nI_clamp (by omega), mg_adI _ hb]) ?_⟩
  refine br_f hz ⟨ib, ib, ?_⟩
  refine nm_r (e' := upd (upd f a (nI (E a ||| 2 ^ b))) b (nI (E b ||| 2 ^ a))) (by rw [nI_clamp (by omega), pk_un (Ne.symm hab), hA b hb, mg_adI _ ha]) ?_
  exact h _ (mg_A_ad ha hb hab hA)
theorem yw_put0 {post : SY → Prop} {o z : Int32} {f t : Nat → Int32} {E : Nat → Nat} {a b : Nat} (ha : a < 10) (hb : b < 10) (hab : a ≠ b) (hz : z = 0) (hA : mg_A f E) (h : ∀ f', mg_A f' (mg_cu E a b) → post (o, f', t)) : wpY_put post (o, f, t) (nI a) (nI b) z := by
  unfold wpY_put
  dsimp only
  have ia : vp_in (nI a) 10 := vp_in_nI ha (by decide)
  have ib : vp_in (nI b) 10 := vp_in_nI hb (by decide)
  refine br_t hz ⟨ia, ?_⟩
  unfold wY_put_34
  refine ⟨ia, nm_r (e' := upd f a (nI (mg_rm (E a) b))) (by rw [mg_Ar hA ha, nI_clamp (by omega), mg_rmI _ hb]) ?_⟩
  refine br_t hz ⟨ib, ib, ?_⟩
  refine nm_r (e' := upd (upd f a (nI (mg_rm (E a) b))) b (nI (mg_rm (E b) a))) (by rw [nI_clamp (by omega), pk_un (Ne.symm hab), hA b hb, mg_rmI _ ha]) ?_
  exact h _ (mg_A_cu ha hb hab hA)
theorem yw_ci_50 {post : Int32 → SY → Prop} {J : Int32 → Int32 → Int32 → (Nat → Int32) → (Nat → Int32) → Prop} {x1 x2 o : Int32} {f t : Nat → Int32} {E : Nat → Nat} {c v w : Nat} (hv : v < 10) (hw : w < 10) (hvw : v ≠ w) (hA : mg_A f E) (hG : mg_G E) (h0 : (E v).testBit w = false → ∀ f', mg_A f' (mg_ad E v w) → J (nI (c + 1)) (nI (v + 1)) o f' t) (h1 : (E v).testBit w = true → J (nI c) (nI (v + 1)) o f t) : wY_circle_50 post J x1 x2 (nI c) (nI v) (nI w) o f t := by
  unfold wY_circle_50
  refine ⟨vp_in_nI hv (by decide), yw_hasC (mg_Ar hA hv) rfl (hG.1 v hv) hw (fun q => ?_) (fun q => nm_r (nI_1 v) (h1 q))⟩
  exact yw_put1 hv hw hvw (by decide) hA (fun f' hf => nm_r (nI_1 c) (nm_r (nI_1 v) (h0 q f' hf)))
theorem yw_ci_30 {post : Int32 → SY → Prop} {o : Int32} {t : Nat → Int32} {E : Nat → Nat} {a b : Nat} (hab : a + 2 ≤ b) (hb : b < 10) (h : ∀ f E', mg_A f E' → (∀ i j, (E' i).testBit j = true ↔ ((E i).testBit j = true ∨ mg_ep b a i j ∨ ∃ w, a ≤ w ∧ w < b ∧ mg_ep w (w + 1) i j)) → post (nI (mg_sm E a (b - a) + mg_no ((E b).testBit a))) (o, f, t)) : ∀ n v f E', v + n = b → a ≤ v → mg_A f E' → mg_YI E a v E' → wY_circle_30 post (nI a) (nI b) (n + 2) (nI (mg_sm E a (v - a))) (nI v) o f t := by
  intro n
  induction n with
  | zero =>
    intro v f E' hv hav hA hY
    have : v = b := by omega
    subst this
    rw [wY_circle_30]
    refine br_f (nI_nlt (Nat.le_refl v) (by omega)) (br_t rfl ?_)
    have e := mg_YI_p hY hab
    refine yw_ci_50 hb (by omega) (by omega) hA hY.1 (fun q f' hf => ?_) (fun q => ?_)
    · rw [wY_circle_30]
      refine br_t (nI_lt (Nat.lt_succ_self v) (by omega)) ?_
      have H := h f' _ hf (mg_YI_e1 hY (by omega))
      rw [e] at q
      rw [mg_no_f (by rw [q]; decide)] at H
      exact H
    · rw [wY_circle_30]
      refine br_t (nI_lt (Nat.lt_succ_self v) (by omega)) ?_
      have H := h f E' hA (mg_YI_e2 hY (by omega) hb q)
      rw [e] at q
      rw [mg_no_t q] at H
      exact H
  | succ n ih =>
    intro v f E' hv hav hA hY
    rw [wY_circle_30]
    refine br_f (nI_nlt (by omega) (by omega)) (br_f (fun z => absurd ((nI_eq (by omega) (by omega)).1 z) (by omega)) ?_)
    rw [nI_1 v]
    have e := mg_YI_o hY hav
    refine yw_ci_50 (by omega) (by omega) (by omega) hA hY.1 (fun q f' hf => ?_) (fun q => ?_)
    · have H := ih (v + 1) f' _ (by omega) (by omega) hf (mg_YI_s hY hav (by omega))
      rw [e] at q
      rw [mg_sm_s E hav, mg_no_f (by rw [q]; decide)] at H
      exact H
    · have H := ih (v + 1) f E' (by omega) (by omega) hA (mg_YI_k hY hav (by omega) q)
      rw [e] at q
      rw [mg_sm_s E hav, mg_no_t q] at H
      exact H
theorem yw_ne_8 {post : Int32 → SY → Prop} {f t : Nat → Int32} {E : Nat → Nat} {s : Nat} (hs : s < 1024) (hT : mg_T t E) (h : post (nI (mg_ct (mg_nd E s) 10)) (nI s, f, t)) : ∀ n k, k + n = 10 → wY_needed_8 post (nI s) f t (n + 1) (nI (mg_ct (mg_nd E s) k)) (nI k) := by
  intro n
  induction n with
  | zero =>
    intro k hk
    have : k = 10 := by omega
    subst this
    rw [wY_needed_8]
    exact br_t (nI_le (Nat.le_refl 10) (by decide)) h
  | succ n ih =>
    intro k hk
    have hk10 : k < 10 := by omega
    have hl : mg_rm s k < 1024 := mg_rm_1 hs
    have b1 := mg_M_b E hs
    have b2 := mg_M_b E hl
    have IH := ih (k + 1) (by omega)
    have K0 : mg_nd E s k = false → wY_needed_8 post (nI s) f t (n + 1) (nI (mg_ct (mg_nd E s) k)) (nI (k + 1)) := fun z => by
      have e : mg_ct (mg_nd E s) (k + 1) = mg_ct (mg_nd E s) k + (mg_nd E s k).toNat := rfl
      rw [e, z] at IH
      exact IH
    have K1 : mg_nd E s k = true → wY_needed_8 post (nI s) f t (n + 1) (nI (mg_ct (mg_nd E s) k + 1)) (nI (k + 1)) := fun z => by
      have e : mg_ct (mg_nd E s) (k + 1) = mg_ct (mg_nd E s) k + (mg_nd E s k).toNat := rfl
      rw [e, z] at IH
      exact IH
    rw [wY_needed_8]
    refine br_f (nI_ge (b := 10) (by omega) (by decide)) ?_
    refine yw_hasC rfl rfl hs hk10 (fun q => ?_) (fun q => ?_)
    · exact nm_r (nI_1 k) (K0 (mg_ff (fun c => by rw [(mg_nd_i.1 c).1] at q; exact absurd q (by decide))))
    · rw [mg_rmI s hk10]
      refine ⟨vp_in_nI hl (by decide), vp_in_nI hs (by decide), ?_⟩
      refine pk_le (mg_M E s) (mg_M E (mg_rm s k)) (fun c => ?_) (fun c => ?_) (mg_Tr hT hs) (mg_Tr hT hl)
      · exact nm_r (nI_1 k) (K0 (mg_ff (fun d => by have := (mg_nd_i.1 d).2; omega)))
      · exact nm_r (nI_1 _) (nm_r (nI_1 k) (K1 (mg_nd_i.2 ⟨q, c⟩)))
end
section
theorem mg_M_z : ∀ s, s < 1024 → mg_M (fun _ => 0) s = 0 := by
  intro s
  induction s using Nat.strongRecOn with
  | _ s ih =>
  intro hs
  by_cases h0 : s = 0
  · rw [h0, mg_M_0]
  · have hl := mg_rm_lt (mg_lo_s h0 hs).1
    rw [mg_M_s h0 hs]
    rcases mg_best_eq (g := mg_M (fun _ => 0)) (e := 0) (r := mg_rm s (mg_lo s)) 10 with h | ⟨u, _, _, h, _⟩
    · rw [h]
      exact ih _ hl (by omega)
    · rw [Nat.zero_testBit] at h
      exact absurd h (by decide)
theorem mg_T_0 : mg_T (fun _ => 0) (fun _ => 0) := by
  intro j hj
  rw [mg_M_z j hj]
  rfl
theorem xw_edge_b {post : Int32 → SX → Prop} {o z x y : Int32} {f t : Nat → Int32} (hxy : mg_bp x y) (h : post (-1) (o, f, t)) : wpX_edge post (o, f, t) x y z := by
  unfold wpX_edge
  dsimp only
  exact xw_ip_b hxy (br_t rfl h)
theorem yw_edge_b {post : Int32 → SY → Prop} {o z x y : Int32} {f t : Nat → Int32} (hxy : mg_bp x y) (h : post (-1) (o, f, t)) : wpY_edge post (o, f, t) x y z := by
  unfold wpY_edge
  dsimp only
  refine yw_badC (fun a ha hx => ?_) (fun _ => h)
  refine yw_badC (fun b hb hy => ?_) (fun _ => h)
  refine br_c (fun _ => h) (fun q => ?_)
  exact absurd (hxy a b ha hb (fun e => q (by rw [hx, hy, e])) hx hy) id
theorem mg_t1 {b : Bool} (h : b = true) : nI b.toNat = 1 := by rw [h]; rfl
theorem mg_t0 {b : Bool} (h : b = false) : nI b.toNat = 0 := by rw [h]; rfl
theorem xw_edge_g {post : Int32 → SX → Prop} {o z : Int32} {f t : Nat → Int32} {E : Nat → Nat} {a b : Nat} (ha : a < 10) (hb : b < 10) (hab : a ≠ b) (hA : mg_A f E) (hG : mg_G E) (h0 : z = 0 → ∀ g s, mg_A g (mg_cu E a b) → mg_T s (mg_cu E a b) → post (nI ((E a).testBit b).toNat) (o, g, s)) (h1 : ¬ z = 0 → ∀ g s, mg_A g (mg_ad E a b) → mg_T s (mg_ad E a b) → post (nI ((E a).testBit b).toNat) (o, g, s)) : wpX_edge post (o, f, t) (nI a) (nI b) z := by
  unfold wpX_edge
  dsimp only
  have H : wX_edge_28 post (nI a) (nI b) z (nI ((E a).testBit b).toNat) o f t := by
    unfold wX_edge_28
    refine br_c (fun c => ?_) (fun c => ?_)
    · exact xw_sep ha hb hab hA (fun g hg => xw_edge_50 hg (mg_G_cu hab hG) (fun s hs => h0 c g s hg hs))
    · exact xw_join ha hb hab hA hG (fun g hg => xw_edge_50 hg (mg_G_ad ha hb hab hG) (fun s hs => h1 c g s hg hs))
  refine xw_ip_g ha hb hab (br_f (by decide) ⟨vp_in_nI ha (by decide), ?_⟩)
  refine xw_hasC (mg_Ar hA ha) rfl (hG.1 a ha) hb (fun q => ?_) (fun q => ?_)
  · rw [mg_t0 q] at H
    exact H
  · rw [mg_t1 q] at H
    exact H
theorem yw_edge_g {post : Int32 → SY → Prop} {o z : Int32} {f t : Nat → Int32} {E : Nat → Nat} {a b : Nat} (ha : a < 10) (hb : b < 10) (hab : a ≠ b) (hA : mg_A f E) (hG : mg_G E) (h0 : z = 0 → ∀ g, mg_A g (mg_cu E a b) → post (nI ((E a).testBit b).toNat) (o, g, t)) (h1 : ¬ z = 0 → ∀ g, mg_A g (mg_ad E a b) → post (nI ((E a).testBit b).toNat) (o, g, t)) : wpY_edge post (o, f, t) (nI a) (nI b) z := by
  unfold wpY_edge
  dsimp only
  refine yw_bad_g ha (br_t rfl ?_)
  refine yw_bad_g hb (br_t rfl ?_)
  refine br_f (fun q => hab ((nI_eq (by omega) (by omega)).1 q)) ⟨vp_in_nI ha (by decide), ?_⟩
  refine nm_r (e' := nI ((E a).testBit b).toNat) (by rw [mg_Ar hA ha, mg_has (hG.1 a ha) hb]) ?_
  by_cases c : z = 0
  · exact yw_put0 ha hb hab c hA (fun g hg => h0 c g hg)
  · exact yw_put1 ha hb hab c hA (fun g hg => h1 c g hg)
theorem xw_turn_g {post : Int32 → SX → Prop} {z : Int32} {f t : Nat → Int32} {s v : Nat} (hs : s < 1024) (hv : v < 10) (h0 : z = 0 → post (nI (s.testBit v).toNat) (nI (mg_rm s v), f, t)) (h1 : ¬ z = 0 → post (nI (s.testBit v).toNat) (nI (s ||| 2 ^ v), f, t)) : wpX_turn post (nI s, f, t) (nI v) z := by
  unfold wpX_turn
  dsimp only
  have H : wX_turn_25 post (nI v) z (nI (s.testBit v).toNat) (nI s) f t := by
    unfold wX_turn_25
    refine br_c (fun c => ?_) (fun c => ?_)
    · exact xw_without rfl rfl hv (h0 c)
    · exact nm_r (mg_adI s hv) (h1 c)
  refine xw_iv_g hv (br_f (by decide) ?_)
  refine xw_hasC rfl rfl hs hv (fun q => ?_) (fun q => ?_)
  · rw [mg_t0 q] at H
    exact H
  · rw [mg_t1 q] at H
    exact H
theorem yw_turn_g {post : Int32 → SY → Prop} {z : Int32} {f t : Nat → Int32} {s v : Nat} (hs : s < 1024) (hv : v < 10) (h0 : z = 0 → post (nI (s.testBit v).toNat) (nI (mg_rm s v), f, t)) (h1 : ¬ z = 0 → post (nI (s.testBit v).toNat) (nI (s ||| 2 ^ v), f, t)) : wpY_turn post (nI s, f, t) (nI v) z := by
  unfold wpY_turn
  dsimp only
  refine yw_bad_g hv (br_t rfl ?_)
  refine nm_r (mg_has hs hv) ?_
  refine br_c (fun c => ?_) (fun c => ?_)
  · exact nm_r (mg_rmI s hv) (h0 c)
  · exact nm_r (mg_adI s hv) (h1 c)
theorem mg_c2 : ∀ a, a < 10 → ∀ b, b < 10 → ((2 : Int32) ≤ nI b - nI a ↔ a + 2 ≤ b) := by decide +kernel
theorem xw_cl_2 {post : SX → Prop} {o : Int32} (h : ∀ f t, mg_A f (fun _ => 0) → mg_T t (fun _ => 0) → post (1023, f, t)) : ∀ n k (f t : Nat → Int32), k + n = 10 → (∀ i, i < k → f i = 0) → wX_clear_2 post o (n + 1) (nI k) f t := by
  intro n
  induction n with
  | zero =>
    intro k f t hk hf
    have : k = 10 := by omega
    subst this
    rw [wX_clear_2]
    have hA : mg_A f (fun _ => 0) := fun i hi => hf i hi
    exact br_t (nI_le (Nat.le_refl 10) (by decide)) (xw_measure hA mg_G_0 (fun s hs => h f s hA hs))
  | succ n ih =>
    intro k f t hk hf
    rw [wX_clear_2]
    refine br_f (nI_ge (b := 10) (by omega) (by decide)) ⟨vp_in_nI (by omega) (by decide), ?_⟩
    refine nm_r (e' := upd f k 0) (by rw [nI_clamp (by omega)]) (nm_r (nI_1 k) ?_)
    refine ih (k + 1) _ t (by omega) (fun i hi => ?_)
    rcases Nat.lt_or_eq_of_le (Nat.le_of_lt_succ hi) with q | q
    · rw [pk_un (by omega)]
      exact hf i q
    · rw [q, pk_us]
theorem yw_cl_9 {post : SY → Prop} {o : Int32} (h : ∀ f t, mg_A f (fun _ => 0) → post (o, f, t)) : ∀ n k (f t : Nat → Int32), k + n = 10 → (∀ i, i < k → f i = 0) → wY_clear_9 post o (n + 1) (nI k) f t := by
  intro n
  induction n with
  | zero =>
    intro k f t hk hf
    have : k = 10 := by omega
    subst this
    rw [wY_clear_9]
    have hA : mg_A f (fun _ => 0) := fun i hi => hf i hi
    exact br_t (nI_le (Nat.le_refl 10) (by decide)) (h f t hA)
  | succ n ih =>
    intro k f t hk hf
    rw [wY_clear_9]
    refine br_f (nI_ge (b := 10) (by omega) (by decide)) ⟨vp_in_nI (by omega) (by decide), ?_⟩
    refine nm_r (e' := upd f k 0) (by rw [nI_clamp (by omega)]) (nm_r (nI_1 k) ?_)
    refine ih (k + 1) _ t (by omega) (fun i hi => ?_)
    rcases Nat.lt_or_eq_of_le (Nat.le_of_lt_succ hi) with q | q
    · rw [pk_un (by omega)]
      exact hf i q
    · rw [q, pk_us]
theorem yw_is {post : Int32 → SY → Prop} {f t : Nat → Int32} {E : Nat → Nat} {s a b : Nat} (hs : s < 1024) (ha : a < 10) (hb : b < 10) (hab : a ≠ b) (hA : mg_A f E) (hG : mg_G E) (h : ∀ t', post (mg_bi (mg_cn E s a b)) (nI s, f, t')) : wpY_inSome post (nI s, f, t) (nI a) (nI b) := by
  unfold wpY_inSome
  dsimp only
  have N : ¬ mg_cn E s a b = true → ∀ t', post 0 (nI s, f, t') := fun c t' => by
    have H := h t'
    rw [mg_bi_f (mg_ff c)] at H
    exact H
  have hr : mg_rm (mg_rm s a) b < 1024 := mg_rm_1 (mg_rm_1 hs)
  have b1 := mg_M_b E hs
  have b2 := mg_M_b E hr
  refine yw_bo_g hs ha hb hab (fun c => br_t rfl (N (fun d => c ⟨(mg_cn_i.1 d).1, (mg_cn_i.1 d).2.1⟩) t)) (fun q1 q2 => br_f (by decide) ⟨vp_in_nI ha (by decide), ?_⟩)
  refine yw_hasC (mg_Ar hA ha) rfl (hG.1 a ha) hb (fun q3 => N (fun d => by rw [(mg_cn_i.1 d).2.2.1] at q3; exact absurd q3 (by decide)) t) (fun q3 => ?_)
  refine yw_fill hA hG (fun t' ht => yw_without hs ha hb ht ⟨vp_in_nI hs (by decide), ?_⟩)
  refine pk_eq (mg_M E (mg_rm (mg_rm s a) b) + 1) (mg_M E s) (fun c => ?_) (fun c => N (fun d => c (mg_cn_i.1 d).2.2.2) t') (nI_1 _) (mg_Tr ht hs)
  have H := h t'
  rw [mg_bi_t (mg_cn_i.2 ⟨q1, q2, q3, c⟩)] at H
  exact H
def mg_hp (E : Nat → Nat) (s a b : Nat) : Bool := s.testBit a && s.testBit b && !(E a).testBit b && decide (mg_M E s < mg_M E (mg_rm (mg_rm s a) b) + 1)
theorem mg_hp_i {E : Nat → Nat} {s a b : Nat} : mg_hp E s a b = true ↔ s.testBit a = true ∧ s.testBit b = true ∧ (E a).testBit b = false ∧ mg_M E s < mg_M E (mg_rm (mg_rm s a) b) + 1 := by
  unfold mg_hp
  rw [Bool.and_eq_true, Bool.and_eq_true, Bool.and_eq_true, decide_eq_true_iff, Bool.not_eq_true']
  exact ⟨fun h => ⟨h.1.1.1, h.1.1.2, h.1.2, h.2⟩, fun h => ⟨⟨⟨h.1, h.2.1⟩, h.2.2.1⟩, h.2.2.2⟩⟩
theorem xw_helps {post : Int32 → Prop} {f t : Nat → Int32} {E : Nat → Nat} {s a b : Nat} (hs : s < 1024) (ha : a < 10) (hb : b < 10) (hab : a ≠ b) (hA : mg_A f E) (hG : mg_G E) (hT : mg_T t E) (h : post (mg_bi (mg_hp E s a b))) : wpX_helps post (nI s, f, t) (nI a) (nI b) := by
  unfold wpX_helps
  dsimp only
  have N : ¬ mg_hp E s a b = true → post 0 := fun c => by
    rw [mg_bi_f (mg_ff c)] at h
    exact h
  have hr : mg_rm (mg_rm s a) b < 1024 := mg_rm_1 (mg_rm_1 hs)
  have b1 := mg_M_b E hs
  have b2 := mg_M_b E hr
  refine xw_ip_g ha hb hab (br_f (by decide) ?_)
  refine xw_hasC rfl rfl hs ha (fun q => N (fun d => by rw [(mg_hp_i.1 d).1] at q; exact absurd q (by decide))) (fun q1 => ?_)
  refine xw_hasC rfl rfl hs hb (fun q => N (fun d => by rw [(mg_hp_i.1 d).2.1] at q; exact absurd q (by decide))) (fun q2 => ?_)
  refine ⟨vp_in_nI ha (by decide), xw_hasC (mg_Ar hA ha) rfl (hG.1 a ha) hb (fun q3 => ?_) (fun q => N (fun d => by rw [(mg_hp_i.1 d).2.2.1] at q; exact absurd q (by decide)))⟩
  refine xw_sizeWith hs ha hb (hT _ hr) ⟨vp_in_nI hs (by decide), ?_⟩
  refine pk_le (mg_M E (mg_rm (mg_rm s a) b) + 1) (mg_M E s) (fun c => N (fun d => by have := (mg_hp_i.1 d).2.2.2; omega)) (fun c => ?_) rfl (mg_Tr hT hs)
  rw [mg_bi_t (mg_hp_i.2 ⟨q1, q2, q3, c⟩)] at h
  exact h
theorem yw_helps {post : Int32 → SY → Prop} {f t : Nat → Int32} {E : Nat → Nat} {s a b : Nat} (hs : s < 1024) (ha : a < 10) (hb : b < 10) (hab : a ≠ b) (hA : mg_A f E) (hG : mg_G E) (h : ∀ t', post (mg_bi (mg_hp E s a b)) (nI s, f, t')) : wpY_helps post (nI s, f, t) (nI a) (nI b) := by
  unfold wpY_helps
  dsimp only
  have N : ¬ mg_hp E s a b = true → ∀ t', post 0 (nI s, f, t') := fun c t' => by
    have H := h t'
    rw [mg_bi_f (mg_ff c)] at H
    exact H
  have hr : mg_rm (mg_rm s a) b < 1024 := mg_rm_1 (mg_rm_1 hs)
  have b1 := mg_M_b E hs
  have b2 := mg_M_b E hr
  refine yw_bo_g hs ha hb hab (fun c => br_t rfl (N (fun d => c ⟨(mg_hp_i.1 d).1, (mg_hp_i.1 d).2.1⟩) t)) (fun q1 q2 => br_f (by decide) ⟨vp_in_nI ha (by decide), ?_⟩)
  refine yw_hasC (mg_Ar hA ha) rfl (hG.1 a ha) hb (fun q3 => ?_) (fun q3 => N (fun d => by rw [(mg_hp_i.1 d).2.2.1] at q3; exact absurd q3 (by decide)) t)
  refine yw_fill hA hG (fun t' ht => yw_without hs ha hb ht ⟨vp_in_nI hs (by decide), ?_⟩)
  refine pk_le (mg_M E (mg_rm (mg_rm s a) b) + 1) (mg_M E s) (fun c => N (fun d => by have := (mg_hp_i.1 d).2.2.2; omega) t') (fun c => ?_) (nI_1 _) (mg_Tr ht hs)
  have H := h t'
  rw [mg_bi_t (mg_hp_i.2 ⟨q1, q2, q3, c⟩)] at H
  exact H
def mg_ia (E : Nat → Nat) (s a b : Nat) : Prop := mg_cn E s a b = true ∧ mg_fb E s a = false ∧ ∀ u, u < 10 → u ≠ b → mg_cn E s a u = false
theorem xw_inAll {post : Int32 → Prop} {f t : Nat → Int32} {E : Nat → Nat} {s a b : Nat} (hs : s < 1024) (ha : a < 10) (hb : b < 10) (hab : a ≠ b) (hA : mg_A f E) (hG : mg_G E) (hT : mg_T t E) (h1 : mg_ia E s a b → post 1) (h0 : ¬ mg_ia E s a b → post 0) : wpX_inAll post (nI s, f, t) (nI a) (nI b) := by
  unfold wpX_inAll
  dsimp only
  refine xw_ip_g ha hb hab (br_f (by decide) ?_)
  refine xw_ct hs ha hb hA (hG.1 a ha) hT (mg_bi_c (fun q => h0 (fun c => by rw [c.1] at q; exact absurd q (by decide))) (fun q => ?_))
  refine xw_isFree hs ha hT (mg_bi_c (fun q2 => ?_) (fun q2 => h0 (fun c => by rw [c.2.1] at q2; exact absurd q2 (by decide))))
  refine ⟨11, xw_ia_33 hs ha hb hA hG hT (fun c => h1 ⟨q, q2, c⟩) (fun c => h0 (fun d => ?_)) 10 0 rfl (fun u hu => absurd hu (Nat.not_lt_zero u))⟩
  obtain ⟨u, u1, u2, u3⟩ := c
  rw [d.2.2 u u1 u2] at u3
  exact absurd u3 (by decide)
theorem mg_back {E : Nat → Nat} {a b : Nat} (ha : a < 10) (hb : b < 10) (hab : a ≠ b) (hG : mg_G E) (h : (E a).testBit b = true) : mg_ad (mg_cu E a b) a b = E := by
  funext i
  apply mg_eq
  intro j
  rw [mg_ad_i hab, mg_cu_i hab]
  constructor
  · rintro (q | ⟨q1, q2⟩ | ⟨q1, q2⟩)
    · exact q.1
    · rw [q1, q2]
      exact h
    · rw [q1, q2, hG.2.1 b a hb ha]
      exact h
  · intro q
    by_cases c1 : i = a ∧ j = b
    · exact Or.inr (Or.inl c1)
    · by_cases c2 : i = b ∧ j = a
      · exact Or.inr (Or.inr c2)
      · exact Or.inl ⟨q, c1, c2⟩
theorem mg_ia_y {E : Nat → Nat} {s a b : Nat} (hs : s < 1024) (hab : a ≠ b) (hG : mg_G E) (h1 : s.testBit a = true) (h2 : s.testBit b = true) (h3 : (E a).testBit b = true) : mg_M (mg_cu E a b) s < mg_M E s ↔ mg_ia E s a b := by
  have ha := mg_bit_lt hs h1
  have eb : mg_cu E a b b = mg_rm (E b) a := if_pos rfl
  have ea : mg_cu E a b a = mg_rm (E a) b := (if_neg hab).trans (if_pos rfl)
  rw [mg_inall hs hG.2.1 (mg_G_cu hab hG).2.1 h1 h2 hab h3 (hG.2.2 a ha) (fun i q1 q2 => (if_neg q2).trans (if_neg q1)) eb ea]
  constructor
  · rintro ⟨r1, r2, r3⟩
    refine ⟨mg_cn_i.2 ⟨h1, h2, h3, r1⟩, mg_ff (fun c => r2 (mg_fb_i.1 c).2), fun u u1 u2 => mg_ff (fun c => ?_)⟩
    obtain ⟨_, c2, c3, c4⟩ := mg_cn_i.1 c
    exact r3 u u1 u2 ⟨c2, c3, c4⟩
  · rintro ⟨r1, r2, r3⟩
    refine ⟨(mg_cn_i.1 r1).2.2.2, fun c => ?_, fun u u1 u2 c => ?_⟩
    · rw [mg_fb_i.2 ⟨h1, c⟩] at r2
      exact absurd r2 (by decide)
    · have := r3 u u1 u2
      rw [mg_cn_i.2 ⟨h1, c.1, c.2.1, c.2.2⟩] at this
      exact absurd this (by decide)
theorem yw_size {post : Int32 → SY → Prop} {f t : Nat → Int32} {E : Nat → Nat} {s : Nat} (hs : s < 1024) (hA : mg_A f E) (hG : mg_G E) (h : ∀ t', mg_T t' E → post (nI (mg_M E s)) (nI s, f, t')) : wpY_size post (nI s, f, t) := by
  unfold wpY_size
  dsimp only
  refine yw_fill hA hG (fun t' ht => ⟨vp_in_nI hs (by decide), ?_⟩)
  dsimp only
  rw [mg_Tr ht hs]
  exact h t' ht
theorem yw_inAll {post : Int32 → SY → Prop} {f t : Nat → Int32} {E : Nat → Nat} {s a b : Nat} (hs : s < 1024) (ha : a < 10) (hb : b < 10) (hab : a ≠ b) (hA : mg_A f E) (hG : mg_G E) (h1 : mg_ia E s a b → ∀ f' t', mg_A f' E → post 1 (nI s, f', t')) (h0 : ¬ mg_ia E s a b → ∀ f' t', mg_A f' E → post 0 (nI s, f', t')) : wpY_inAll post (nI s, f, t) (nI a) (nI b) := by
  unfold wpY_inAll
  dsimp only
  refine yw_bo_g hs ha hb hab (fun c => br_t rfl (h0 (fun d => c ⟨(mg_cn_i.1 d.1).1, (mg_cn_i.1 d.1).2.1⟩) f t hA)) (fun q1 q2 => br_f (by decide) ⟨vp_in_nI ha (by decide), ?_⟩)
  refine yw_hasC (mg_Ar hA ha) rfl (hG.1 a ha) hb (fun q3 => h0 (fun d => by rw [(mg_cn_i.1 d.1).2.2.1] at q3; exact absurd q3 (by decide)) f t hA) (fun q3 => ?_)
  refine yw_size hs hA hG (fun t1 ht1 => ?_)
  refine yw_put0 ha hb hab rfl hA (fun f1 hf1 => ?_)
  refine yw_size hs hf1 (mg_G_cu hab hG) (fun t2 ht2 => ?_)
  refine yw_put1 ha hb hab (by decide) hf1 (fun f2 hf2 => ?_)
  rw [mg_back ha hb hab hG q3] at hf2
  have b1 := mg_M_b E hs
  have b2 := mg_M_b (mg_cu E a b) hs
  have e := mg_ia_y hs hab hG q1 q2 q3
  refine pk_le (mg_M E s) (mg_M (mg_cu E a b) s) (fun c => h0 (fun d => ?_) f2 t2 hf2) (fun c => h1 (e.1 c) f2 t2 hf2)
  have := e.2 d
  omega
theorem mg_po_1 {E : Nat → Nat} {s v : Nat} : mg_po E s v = 1 ↔ s.testBit v = true ∧ mg_M E (mg_rm s v) = mg_M E s := by
  unfold mg_po
  by_cases h1 : s.testBit v = true
  · rw [if_pos h1]
    by_cases h2 : mg_M E (mg_rm s v) = mg_M E s
    · rw [if_pos h2]
      exact ⟨fun _ => ⟨h1, h2⟩, fun _ => rfl⟩
    · rw [if_neg h2]
      refine ⟨fun h => ?_, fun h => absurd h.2 h2⟩
      by_cases h3 : mg_fs (mg_bd E s v) 10 0 < 10
      · rw [if_pos h3] at h
        exact absurd h (by decide)
      · rw [if_neg h3] at h
        exact absurd h (by decide)
  · rw [if_neg h1]
    exact ⟨fun h => absurd h (by decide), fun h => absurd h.1 h1⟩
theorem mg_my_1 (E : Nat → Nat) (s : Nat) : mg_set (mg_my E s 1) 10 = mg_fr E s := by
  refine mg_set_c 10 (fun v hv => mg_beq ?_)
  rw [mg_my_i, mg_fb_i, ← mg_po_1]
  have hp := mg_po_le E s v
  constructor
  · intro h
    exact (nI_eq (a := mg_po E s v) (b := 1) (by omega) (by decide)).1 h.2
  · intro h
    rw [h]
    exact ⟨by decide, rfl⟩
theorem mg_my_p {E : Nat → Nat} {s : Nat} {p : Int32} (hp : ¬ p ≤ 0) : mg_set (mg_my E s p) 10 = mg_set (mg_me E s p) 10 := by
  refine mg_set_c 10 (fun v hv => mg_beq ?_)
  rw [mg_my_i]
  exact ⟨fun h => decide_eq_true h.2, fun h => ⟨hp, of_decide_eq_true h⟩⟩
theorem mg_my_n {E : Nat → Nat} {s : Nat} {p : Int32} (h1 : ¬ p = 1) (h2 : ¬ p = 2) (h3 : ¬ p = 3) : mg_set (mg_my E s p) 10 = 0 := by
  apply mg_eq
  intro v
  rw [mg_set_i, mg_my_i, Nat.zero_testBit]
  refine ⟨fun h => ?_, fun h => absurd h (by decide)⟩
  obtain ⟨_, q1, q2⟩ := h
  have hp := mg_po_le E s v
  generalize mg_po E s v = m at q2 hp
  match m, hp with
  | 0, _ => exact absurd (by rw [← q2]; decide) q1
  | 1, _ => exact absurd q2.symm h1
  | 2, _ => exact absurd q2.symm h2
  | 3, _ => exact absurd q2.symm h3
end
section
def i_Rel (k : Nat) (u : SX) (v : SY) : Prop := ∃ (s : Nat) (E : Nat → Nat) (f t f' t' : Nat → Int32), s < 1024 ∧ mg_G E ∧ mg_A f E ∧ mg_A f' E ∧ mg_T t E ∧ u = (nI s, f, t) ∧ v = (nI s, f', t')
theorem mg_R {k s : Nat} {E : Nat → Nat} {f t f' t' : Nat → Int32} (hs : s < 1024) (hG : mg_G E) (hA : mg_A f E) (hA' : mg_A f' E) (hT : mg_T t E) : i_Rel k (nI s, f, t) (nI s, f', t') := ⟨s, E, f, t, f', t', hs, hG, hA, hA', hT, rfl, rfl⟩
theorem i_up {k : Nat} {u : SX} {v : SY} (h : i_Rel k u v) : i_Rel (k + 4) u v := h
theorem i_vc0 : wpX_init (fun u => wpY_init (fun v => i_Rel 0 u v)) := ⟨1023, fun _ => 0, fun _ => 0, fun _ => 0, fun _ => 0, fun _ => 0, by decide, mg_G_0, fun _ _ => rfl, fun _ _ => rfl, mg_T_0, rfl, rfl⟩
theorem i_vc_edge {k : Nat} {u : SX} {v : SY} (I : i_Rel k u v) (hk : k + 4 ≤ 2048) (v1 : Int32) (v2 : Int32) (v3 : Int32) : wpX_edge (fun r u' => wpY_edge (fun r' v' => r' = r ∧ i_Rel (k + 4) u' v') v v1 v2 (lw_bz v3)) u v1 v2 (lw_bz v3) := by
  obtain ⟨s, E, f, t, f', t', hs, hG, hA, hA', hT, rfl, rfl⟩ := I
  rcases mg_pair v1 v2 with hb | ⟨a, b, ha, hb, hab, rfl, rfl⟩
  · exact xw_edge_b hb (yw_edge_b hb ⟨rfl, mg_R hs hG hA hA' hT⟩)
  · refine xw_edge_g ha hb hab hA hG (fun c g tt hg htt => ?_) (fun c g tt hg htt => ?_)
    · exact yw_edge_g ha hb hab hA' hG (fun _ g' hg' => ⟨rfl, mg_R hs (mg_G_cu hab hG) hg hg' htt⟩) (fun d => absurd c d)
    · exact yw_edge_g ha hb hab hA' hG (fun d => absurd d c) (fun _ g' hg' => ⟨rfl, mg_R hs (mg_G_ad ha hb hab hG) hg hg' htt⟩)
theorem i_vc_turn {k : Nat} {u : SX} {v : SY} (I : i_Rel k u v) (hk : k + 4 ≤ 2048) (v1 : Int32) (v2 : Int32) : wpX_turn (fun r u' => wpY_turn (fun r' v' => r' = r ∧ i_Rel (k + 4) u' v') v v1 (lw_bz v2)) u v1 (lw_bz v2) := by
  obtain ⟨s, E, f, t, f', t', hs, hG, hA, hA', hT, rfl, rfl⟩ := I
  rcases pk_ix v1 (n := 10) (by decide) with h | h | ⟨w, hw, rfl⟩
  · unfold wpX_turn
    dsimp only
    refine xw_iv_b (Or.inl h) (br_t rfl ?_)
    unfold wpY_turn
    dsimp only
    exact yw_bad_b (Or.inl h) (br_f (by decide) ⟨rfl, mg_R hs hG hA hA' hT⟩)
  · unfold wpX_turn
    dsimp only
    refine xw_iv_b (Or.inr h) (br_t rfl ?_)
    unfold wpY_turn
    dsimp only
    exact yw_bad_b (Or.inr h) (br_f (by decide) ⟨rfl, mg_R hs hG hA hA' hT⟩)
  · refine xw_turn_g hs hw (fun c => ?_) (fun c => ?_)
    · exact yw_turn_g hs hw (fun _ => ⟨rfl, mg_R (mg_rm_1 hs) hG hA hA' hT⟩) (fun d => absurd c d)
    · exact yw_turn_g hs hw (fun d => absurd d c) (fun _ => ⟨rfl, mg_R (mg_orlt hs (mg_p2lt hw)) hG hA hA' hT⟩)
theorem i_vc_circle {k : Nat} {u : SX} {v : SY} (I : i_Rel k u v) (hk : k + 4 ≤ 2048) (v1 : Int32) (v2 : Int32) : wpX_circle (fun r u' => wpY_circle (fun r' v' => r' = r ∧ i_Rel (k + 4) u' v') v v1 v2) u v1 v2 := by
  obtain ⟨s, E, f, t, f', t', hs, hG, hA, hA', hT, rfl, rfl⟩ := I
  have J : ((-1 : Int32) = -1 ∧ i_Rel (k + 4) (nI s, f, t) (nI s, f', t')) := ⟨rfl, mg_R hs hG hA hA' hT⟩
  have YB : (v1 < 0 ∨ nI 10 ≤ v1) ∨ (v2 < 0 ∨ nI 10 ≤ v2) ∨ (¬ (2 : Int32) ≤ v2 - v1) → wpY_circle (fun r' v' => r' = (-1 : Int32) ∧ i_Rel (k + 4) (nI s, f, t) v') (nI s, f', t') v1 v2 := by
    intro h
    unfold wpY_circle
    dsimp only
    refine yw_badC (fun a ha h1 => ?_) (fun _ => J)
    refine yw_badC (fun b hb h2 => ?_) (fun _ => J)
    rcases h with h | h | h
    · exact absurd h1 (mg_bad_n h a ha)
    · exact absurd h2 (mg_bad_n h b hb)
    · exact br_f h J
  unfold wpX_circle
  dsimp only
  refine xw_ivC (fun h => YB (Or.inl h)) (fun a ha h1 => ?_)
  refine xw_ivC (fun h => YB (Or.inr (Or.inl h))) (fun b hb h2 => ?_)
  refine br_c (fun c => ?_) (fun c => YB (Or.inr (Or.inr c)))
  have c' := c
  rw [h1, h2] at c'
  have hab : a + 2 ≤ b := (mg_c2 a ha b hb).1 c'
  clear YB
  subst h1
  subst h2
  refine xw_join hb ha (by omega) hA hG (fun f1 hf1 => ?_)
  have X := xw_ci_33 (post := fun r u' => wpY_circle (fun r' v' => r' = r ∧ i_Rel (k + 4) u' v') (nI s, f', t') (nI a) (nI b)) (o := nI s) (E := E) (c0 := mg_no ((E b).testBit a)) hab hb ?_ (b - a) a f1 t _ (by omega) (Nat.le_refl a) hf1 (mg_XI_0 hG ha hb (by omega))
  · rw [Nat.sub_self] at X
    exact ⟨_, X⟩
  · intro g tt E' hg hX htt
    unfold wpY_circle
    dsimp only
    refine yw_bad_g ha (br_t rfl ?_)
    refine yw_bad_g hb (br_t rfl (br_t c ?_))
    have Y := yw_ci_30 (post := fun r' v' => r' = nI (mg_no ((E b).testBit a) + mg_sm E a (b - a)) ∧ i_Rel (k + 4) (nI s, g, tt) v') (o := nI s) (t := t') (E := E) hab hb ?_ (b - a) a f' E (by omega) (Nat.le_refl a) hA' (mg_YI_0 hG)
    · rw [Nat.sub_self] at Y
      exact ⟨_, Y⟩
    · intro g' E'' hg' hb'
      refine ⟨by rw [Nat.add_comm], ?_⟩
      rw [mg_XY hX hb'] at hg'
      exact mg_R hs hX.1 hg hg' htt
theorem i_vc_clear {k : Nat} {u : SX} {v : SY} (I : i_Rel k u v) (hk : k + 4 ≤ 2048) : wpX_clear (fun u' => wpY_clear (fun v' => i_Rel (k + 4) u' v') v) u := by
  obtain ⟨s, E, f, t, f', t', hs, hG, hA, hA', hT, rfl, rfl⟩ := I
  unfold wpX_clear
  dsimp only
  refine ⟨11, xw_cl_2 (fun g tt hg htt => ?_) 10 0 f t rfl (fun i hi => absurd hi (Nat.not_lt_zero i))⟩
  unfold wpY_clear
  dsimp only
  exact ⟨11, yw_cl_9 (fun g' tt' hg' => mg_R (s := 1023) (by decide) mg_G_0 hg hg' htt) 10 0 f' t' rfl (fun i hi => absurd hi (Nat.not_lt_zero i))⟩
theorem i_vc_size {k : Nat} {u : SX} {v : SY} (I : i_Rel k u v) (hk : k + 4 ≤ 2048) : wpX_size (fun r => wpY_size (fun r' v' => r' = r ∧ i_Rel (k + 4) u v') v) u := by
  obtain ⟨s, E, f, t, f', t', hs, hG, hA, hA', hT, rfl, rfl⟩ := I
  unfold wpX_size
  dsimp only
  refine ⟨vp_in_nI hs (by decide), ?_⟩
  rw [mg_Tr hT hs]
  exact yw_size hs hA' hG (fun tt htt => ⟨rfl, mg_R hs hG hA hA' hT⟩)
theorem i_vc_missed {k : Nat} {u : SX} {v : SY} (I : i_Rel k u v) (hk : k + 4 ≤ 2048) : wpX_missed (fun r => wpY_missed (fun r' v' => r' = r ∧ i_Rel (k + 4) u v') v) u := by
  obtain ⟨s, E, f, t, f', t', hs, hG, hA, hA', hT, rfl, rfl⟩ := I
  unfold wpX_missed
  dsimp only
  refine xw_count hs ⟨vp_in_nI hs (by decide), ?_⟩
  rw [mg_Tr hT hs]
  unfold wpY_missed
  dsimp only
  refine yw_fill hA' hG (fun tt htt => ?_)
  dsimp only
  refine yw_count hs ⟨vp_in_nI hs (by decide), ?_⟩
  rw [mg_Tr htt hs]
  exact ⟨rfl, mg_R hs hG hA hA' hT⟩
theorem i_vc_part {k : Nat} {u : SX} {v : SY} (I : i_Rel k u v) (hk : k + 4 ≤ 2048) (v1 : Int32) : wpX_part (fun r => wpY_part (fun r' v' => r' = r ∧ i_Rel (k + 4) u v') v v1) u v1 := by
  obtain ⟨s, E, f, t, f', t', hs, hG, hA, hA', hT, rfl, rfl⟩ := I
  unfold wpX_part
  dsimp only
  refine xw_ivC (fun h => ?_) (fun w hw h => ?_)
  · unfold wpY_part
    dsimp only
    exact yw_bad_b h (br_f (by decide) ⟨rfl, mg_R hs hG hA hA' hT⟩)
  · subst h
    refine xw_fv hs hT (xw_partOf hs hw hA ?_)
    unfold wpY_part
    dsimp only
    refine yw_bad_g hw (br_t rfl (yw_fill hA' hG (fun tt htt => ?_)))
    exact yw_partOf hs hw hA' htt ⟨rfl, mg_R hs hG hA hA' hT⟩
theorem i_vc_members {k : Nat} {u : SX} {v : SY} (I : i_Rel k u v) (hk : k + 4 ≤ 2048) (v1 : Int32) : wpX_members (fun r => wpY_members (fun r' v' => r' = r ∧ i_Rel (k + 4) u v') v v1) u v1 := by
  obtain ⟨s, E, f, t, f', t', hs, hG, hA, hA', hT, rfl, rfl⟩ := I
  have K : ¬ v1 ≤ 0 → wX_members_17 (fun r => wpY_members (fun r' v' => r' = r ∧ i_Rel (k + 4) (nI s, f, t) v') (nI s, f', t') v1) v1 (nI s) f t := by
    intro h
    refine xw_mem_17 hs hA hT (yw_members hs hA' hG (fun tt htt => ⟨by rw [mg_my_p h], mg_R hs hG hA hA' hT⟩))
  unfold wpX_members
  dsimp only
  refine br_c (fun c => K (by rw [c]; decide)) (fun c1 => br_c (fun c => K (by rw [c]; decide)) (fun c2 => br_c (fun c => K (by rw [c]; decide)) (fun c3 => ?_)))
  exact yw_members hs hA' hG (fun tt htt => ⟨by rw [mg_my_n c1 c2 c3]; rfl, mg_R hs hG hA hA' hT⟩)
theorem i_vc_groups {k : Nat} {u : SX} {v : SY} (I : i_Rel k u v) (hk : k + 4 ≤ 2048) : wpX_groups (fun r => wpY_groups (fun r' v' => r' = r ∧ i_Rel (k + 4) u v') v) u := by
  obtain ⟨s, E, f, t, f', t', hs, hG, hA, hA', hT, rfl, rfl⟩ := I
  unfold wpX_groups
  dsimp only
  refine xw_fv hs hT ⟨11, xw_gr_12 hA hG 10 0 (mg_fr E s) 0 rfl (mg_fr_lt E s) ?_⟩
  unfold wpY_groups
  dsimp only
  refine yw_members hs hA' hG (fun tt htt => ?_)
  rw [mg_my_1 E s]
  refine ⟨11, yw_gr_10 (F := mg_fr E s) hA' hG 10 0 (mg_fr E s) 0 rfl (mg_fr_lt E s) (fun j hj => absurd hj (Nat.not_lt_zero j)) (fun _ h => h) (fun _ _ _ _ _ h => h) ?_⟩
  exact ⟨rfl, mg_R hs hG hA hA' hT⟩
theorem i_vc_partner {k : Nat} {u : SX} {v : SY} (I : i_Rel k u v) (hk : k + 4 ≤ 2048) (v1 : Int32) : wpX_partner (fun r => wpY_partner (fun r' v' => r' = r ∧ i_Rel (k + 4) u v') v v1) u v1 := by
  obtain ⟨s, E, f, t, f', t', hs, hG, hA, hA', hT, rfl, rfl⟩ := I
  unfold wpX_partner
  dsimp only
  refine xw_ivC (fun h => ?_) (fun w hw h => ?_)
  · unfold wpY_partner
    dsimp only
    exact yw_bad_b h (br_f (by decide) ⟨rfl, mg_R hs hG hA hA' hT⟩)
  · subst h
    refine ⟨11, xw_pr_16 hw hA hG hT 10 0 s rfl hs ?_⟩
    unfold wpY_partner
    dsimp only
    refine yw_bad_g hw (br_t rfl (yw_fill hA' hG (fun tt htt => ⟨11, ?_⟩)))
    exact yw_pr_21 hw hA' htt 10 0 s rfl hs ⟨rfl, mg_R hs hG hA hA' hT⟩
theorem i_vc_inSome {k : Nat} {u : SX} {v : SY} (I : i_Rel k u v) (hk : k + 4 ≤ 2048) (v1 : Int32) (v2 : Int32) : wpX_inSome (fun r => wpY_inSome (fun r' v' => r' = r ∧ i_Rel (k + 4) u v') v v1 v2) u v1 v2 := by
  obtain ⟨s, E, f, t, f', t', hs, hG, hA, hA', hT, rfl, rfl⟩ := I
  unfold wpX_inSome
  dsimp only
  rcases mg_pair v1 v2 with hb | ⟨a, b, ha, hb, hab, rfl, rfl⟩
  · refine xw_ip_b hb (br_t rfl ?_)
    unfold wpY_inSome
    dsimp only
    exact yw_bo_b hb (br_t rfl ⟨rfl, mg_R hs hG hA hA' hT⟩)
  · refine xw_ip_g ha hb hab (br_f (by decide) ?_)
    refine xw_ct hs ha hb hA (hG.1 a ha) hT (mg_bi_c (fun q => ?_) (fun q => ?_))
    · exact yw_is hs ha hb hab hA' hG (fun tt => ⟨mg_bi_f q, mg_R hs hG hA hA' hT⟩)
    · exact yw_is hs ha hb hab hA' hG (fun tt => ⟨mg_bi_t q, mg_R hs hG hA hA' hT⟩)
theorem i_vc_inAll {k : Nat} {u : SX} {v : SY} (I : i_Rel k u v) (hk : k + 4 ≤ 2048) (v1 : Int32) (v2 : Int32) : wpX_inAll (fun r => wpY_inAll (fun r' v' => r' = r ∧ i_Rel (k + 4) u v') v v1 v2) u v1 v2 := by
  obtain ⟨s, E, f, t, f', t', hs, hG, hA, hA', hT, rfl, rfl⟩ := I
  rcases mg_pair v1 v2 with hb | ⟨a, b, ha, hb, hab, rfl, rfl⟩
  · unfold wpX_inAll
    dsimp only
    refine xw_ip_b hb (br_t rfl ?_)
    unfold wpY_inAll
    dsimp only
    exact yw_bo_b hb (br_t rfl ⟨rfl, mg_R hs hG hA hA' hT⟩)
  · refine xw_inAll hs ha hb hab hA hG hT (fun c => ?_) (fun c => ?_)
    · exact yw_inAll hs ha hb hab hA' hG (fun _ g tt hg => ⟨rfl, mg_R hs hG hA hg hT⟩) (fun d => absurd c d)
    · exact yw_inAll hs ha hb hab hA' hG (fun d => absurd d c) (fun _ g tt hg => ⟨rfl, mg_R hs hG hA hg hT⟩)
theorem i_vc_helps {k : Nat} {u : SX} {v : SY} (I : i_Rel k u v) (hk : k + 4 ≤ 2048) (v1 : Int32) (v2 : Int32) : wpX_helps (fun r => wpY_helps (fun r' v' => r' = r ∧ i_Rel (k + 4) u v') v v1 v2) u v1 v2 := by
  obtain ⟨s, E, f, t, f', t', hs, hG, hA, hA', hT, rfl, rfl⟩ := I
  rcases mg_pair v1 v2 with hb | ⟨a, b, ha, hb, hab, rfl, rfl⟩
  · unfold wpX_helps
    dsimp only
    refine xw_ip_b hb (br_t rfl ?_)
    unfold wpY_helps
    dsimp only
    exact yw_bo_b hb (br_t rfl ⟨rfl, mg_R hs hG hA hA' hT⟩)
  · refine xw_helps hs ha hb hab hA hG hT ?_
    exact yw_helps hs ha hb hab hA' hG (fun tt => ⟨rfl, mg_R hs hG hA hA' hT⟩)
theorem i_vc_needed {k : Nat} {u : SX} {v : SY} (I : i_Rel k u v) (hk : k + 4 ≤ 2048) : wpX_needed (fun r => wpY_needed (fun r' v' => r' = r ∧ i_Rel (k + 4) u v') v) u := by
  obtain ⟨s, E, f, t, f', t', hs, hG, hA, hA', hT, rfl, rfl⟩ := I
  unfold wpX_needed
  dsimp only
  refine xw_fv hs hT (xw_count hs (xw_count (mg_fr_lt E s) ?_))
  unfold wpY_needed
  dsimp only
  refine yw_fill hA' hG (fun tt htt => ⟨11, yw_ne_8 hs htt ⟨?_, mg_R hs hG hA hA' hT⟩ 10 0 rfl⟩)
  have e := mg_need hs hG.2.1
  rw [pk_sub (by omega)]
  exact congrArg nI (by omega)
end
