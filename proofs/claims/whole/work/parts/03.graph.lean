abbrev mg_P (E : Nat → Nat) (s a : Nat) : Prop := mg_M E (mg_rm s a) ≤ mg_M E s ∧ (∀ u, (mg_rm s a).testBit u = true → (E a).testBit u = true → mg_M E (mg_rm (mg_rm s a) u) + 1 ≤ mg_M E s) ∧ (mg_M E s = mg_M E (mg_rm s a) ∨ ∃ u, (mg_rm s a).testBit u = true ∧ (E a).testBit u = true ∧ mg_M E s = mg_M E (mg_rm (mg_rm s a) u) + 1)
abbrev mg_sy (E : Nat → Nat) : Prop := ∀ a b, a < 10 → b < 10 → (E a).testBit b = (E b).testBit a
theorem mg_av0 {E : Nat → Nat} {s : Nat} (h0 : ¬ s = 0) (hs : s < 1024) : mg_P E s (mg_lo s) := by
  have e := mg_M_s (E := E) h0 hs
  refine ⟨?_, ?_, ?_⟩
  · rw [e]
    exact mg_best_ge0 10
  · intro u hu he
    rw [e]
    exact mg_best_ge 10 u (mg_bit_lt hs (mg_rm_i.1 hu).1) hu he
  · rcases mg_best_eq (g := mg_M E) (e := E (mg_lo s)) (r := mg_rm s (mg_lo s)) 10 with h | ⟨u, _, h1, h2, h3⟩
    · exact Or.inl (e.trans h)
    · exact Or.inr ⟨u, h1, h2, e.trans h3⟩
theorem mg_av {E : Nat → Nat} (sy : mg_sy E) : ∀ s, s < 1024 → ∀ a, s.testBit a = true → mg_P E s a := by
  intro s
  induction s using Nat.strongRecOn with
  | _ s ih =>
  intro hs a ha
  have h0 : ¬ s = 0 := by
    intro e
    rw [e, Nat.zero_testBit] at ha
    exact absurd ha (by decide)
  have L := mg_av0 (E := E) h0 hs
  have hv := (mg_lo_s h0 hs).1
  generalize mg_lo s = v at L hv
  by_cases hav : a = v
  · rw [hav]
    exact L
  obtain ⟨L1, L2, L3⟩ := L
  have I : ∀ t, t < s → ∀ b, t.testBit b = true → mg_P E t b := fun t ht b hb => ih t ht (by omega) b hb
  have ha10 := mg_bit_lt hs ha
  have hv10 := mg_bit_lt hs hv
  have hva : (mg_rm s v).testBit a = true := mg_rm_i.2 ⟨ha, hav⟩
  have hav' : (mg_rm s a).testBit v = true := mg_rm_i.2 ⟨hv, fun e => hav e.symm⟩
  have ltv : mg_rm s v < s := mg_rm_lt hv
  have lta : mg_rm s a < s := mg_rm_lt ha
  have c1 : mg_rm (mg_rm s a) v = mg_rm (mg_rm s v) a := mg_rm_c s a v
  have A1 : mg_M E (mg_rm s a) ≤ mg_M E s := by
    rcases (I _ lta v hav').2.2 with h | ⟨u, hu, he, h⟩
    · rw [h, c1]
      exact Nat.le_trans (I _ ltv a hva).1 L1
    · have hu1 := mg_rm_i.1 hu
      have hu2 := mg_rm_i.1 hu1.1
      have huv : (mg_rm s v).testBit u = true := mg_rm_i.2 ⟨hu2.1, hu1.2⟩
      have hx : (mg_rm (mg_rm s v) u).testBit a = true := mg_rm_i.2 ⟨hva, fun e => hu2.2 e.symm⟩
      have e : mg_rm (mg_rm (mg_rm s a) v) u = mg_rm (mg_rm (mg_rm s v) u) a := by rw [c1, mg_rm_c _ a u]
      rw [h, e]
      have q := (I _ (Nat.lt_of_le_of_lt (mg_rm_le _ u) ltv) a hx).1
      have q2 := L2 u huv he
      omega
  have A2 : ∀ u, (mg_rm s a).testBit u = true → (E a).testBit u = true → mg_M E (mg_rm (mg_rm s a) u) + 1 ≤ mg_M E s := by
    intro u hu he
    have hu1 := mg_rm_i.1 hu
    by_cases huv : u = v
    · rw [huv] at he ⊢
      rw [c1]
      exact L2 a hva (by rw [sy v a hv10 ha10]; exact he)
    · have hvau : (mg_rm (mg_rm s a) u).testBit v = true := mg_rm_i.2 ⟨hav', fun e => huv e.symm⟩
      have ltu : mg_rm (mg_rm s a) u < s := Nat.lt_of_le_of_lt (mg_rm_le _ u) lta
      have huv' : (mg_rm s v).testBit u = true := mg_rm_i.2 ⟨hu1.1, huv⟩
      have hua : (mg_rm (mg_rm s v) a).testBit u = true := mg_rm_i.2 ⟨huv', hu1.2⟩
      rcases (I _ ltu v hvau).2.2 with h | ⟨w, hw, hew, h⟩
      · have e : mg_rm (mg_rm (mg_rm s a) u) v = mg_rm (mg_rm (mg_rm s v) a) u := by rw [mg_rm_c _ u v, c1]
        rw [h, e]
        have q := (I _ ltv a hva).2.1 u hua he
        omega
      · have w1 := mg_rm_i.1 hw
        have w2 := mg_rm_i.1 w1.1
        have w3 := mg_rm_i.1 w2.1
        have hwv : (mg_rm s v).testBit w = true := mg_rm_i.2 ⟨w3.1, w1.2⟩
        have e : mg_rm (mg_rm (mg_rm (mg_rm s a) u) v) w = mg_rm (mg_rm (mg_rm (mg_rm s v) w) a) u := by rw [mg_rm_c _ u v, c1, mg_rm_c _ u w, mg_rm_c _ a w]
        have hx : (mg_rm (mg_rm s v) w).testBit a = true := mg_rm_i.2 ⟨hva, fun e => w3.2 e.symm⟩
        have hy : (mg_rm (mg_rm (mg_rm s v) w) a).testBit u = true := mg_rm_i.2 ⟨mg_rm_i.2 ⟨huv', fun e => w2.2 e.symm⟩, hu1.2⟩
        rw [h, e]
        have q := (I _ (Nat.lt_of_le_of_lt (mg_rm_le _ w) ltv) a hx).2.1 u hy he
        have q2 := L2 w hwv hew
        omega
  refine ⟨A1, A2, ?_⟩
  rcases L3 with h | ⟨w, hw, hew, h⟩
  · rcases (I _ ltv a hva).2.2 with g | ⟨u, hu, he, g⟩
    · left
      have q := (I _ lta v hav').1
      rw [c1] at q
      omega
    · right
      have u1 := mg_rm_i.1 hu
      have u2 := mg_rm_i.1 u1.1
      have hua : (mg_rm s a).testBit u = true := mg_rm_i.2 ⟨u2.1, u1.2⟩
      have hx : (mg_rm (mg_rm s a) u).testBit v = true := mg_rm_i.2 ⟨hav', fun e => u2.2 e.symm⟩
      have q := (I _ (Nat.lt_of_le_of_lt (mg_rm_le _ u) lta) v hx).1
      have e : mg_rm (mg_rm (mg_rm s a) u) v = mg_rm (mg_rm (mg_rm s v) a) u := by rw [mg_rm_c _ u v, c1]
      rw [e] at q
      have q2 := A2 u hua he
      exact ⟨u, hua, he, by omega⟩
  · have w1 := mg_rm_i.1 hw
    by_cases hwa : w = a
    · right
      refine ⟨v, hav', ?_, ?_⟩
      · rw [sy a v ha10 hv10, ← hwa]
        exact hew
      · rw [c1, ← hwa]
        exact h
    · have hxa : (mg_rm (mg_rm s v) w).testBit a = true := mg_rm_i.2 ⟨hva, fun e => hwa e.symm⟩
      have hwa' : (mg_rm s a).testBit w = true := mg_rm_i.2 ⟨w1.1, hwa⟩
      have hwav : (mg_rm (mg_rm s a) v).testBit w = true := mg_rm_i.2 ⟨hwa', w1.2⟩
      rcases (I _ (Nat.lt_of_le_of_lt (mg_rm_le _ w) ltv) a hxa).2.2 with g | ⟨u, hu, he, g⟩
      · left
        have q := (I _ lta v hav').2.1 w hwav hew
        have e : mg_rm (mg_rm (mg_rm s a) v) w = mg_rm (mg_rm (mg_rm s v) w) a := by rw [c1, mg_rm_c _ a w]
        rw [e] at q
        omega
      · right
        have u1 := mg_rm_i.1 hu
        have u2 := mg_rm_i.1 u1.1
        have u3 := mg_rm_i.1 u2.1
        have hua : (mg_rm s a).testBit u = true := mg_rm_i.2 ⟨u3.1, u1.2⟩
        have hxv : (mg_rm (mg_rm s a) u).testBit v = true := mg_rm_i.2 ⟨hav', fun e => u3.2 e.symm⟩
        have hxw : (mg_rm (mg_rm (mg_rm s a) u) v).testBit w = true := mg_rm_i.2 ⟨mg_rm_i.2 ⟨hwa', fun e => u2.2 e.symm⟩, w1.2⟩
        have q := (I _ (Nat.lt_of_le_of_lt (mg_rm_le _ u) lta) v hxv).2.1 w hxw hew
        have e : mg_rm (mg_rm (mg_rm (mg_rm s a) u) v) w = mg_rm (mg_rm (mg_rm (mg_rm s v) w) a) u := by rw [mg_rm_c _ u v, c1, mg_rm_c _ u w, mg_rm_c _ a w]
        rw [e] at q
        have q2 := A2 u hua he
        exact ⟨u, hua, he, by omega⟩
theorem mg_M_c {E E' : Nat → Nat} : ∀ s, s < 1024 → (∀ x y, s.testBit x = true → s.testBit y = true → (E x).testBit y = (E' x).testBit y) → mg_M E s = mg_M E' s := by
  intro s
  induction s using Nat.strongRecOn with
  | _ s ih =>
  intro hs h
  by_cases h0 : s = 0
  · rw [h0, mg_M_0, mg_M_0]
  · have hl := mg_rm_lt (mg_lo_s h0 hs).1
    rw [mg_M_s (E := E) h0 hs, mg_M_s (E := E') h0 hs]
    refine mg_best_c2 (ih _ hl (by omega) (fun x y hx hy => h x y (mg_rm_i.1 hx).1 (mg_rm_i.1 hy).1)) (fun u hu => ⟨?_, h _ _ (mg_lo_s h0 hs).1 (mg_rm_i.1 hu).1⟩) 10
    have hu' := mg_rm_le (mg_rm s (mg_lo s)) u
    exact ih _ (by omega) (by omega) (fun x y hx hy => h x y (mg_rm_i.1 (mg_rm_i.1 hx).1).1 (mg_rm_i.1 (mg_rm_i.1 hy).1).1)
theorem mg_inall {E E' : Nat → Nat} {s a b : Nat} (hs : s < 1024) (sy : mg_sy E) (sy' : mg_sy E') (ha : s.testBit a = true) (hb : s.testBit b = true) (hab : a ≠ b) (he : (E a).testBit b = true) (ir : (E a).testBit a = false) (hE : ∀ i, i ≠ a → i ≠ b → E' i = E i) (hEb : E' b = mg_rm (E b) a) (hEa : E' a = mg_rm (E a) b) : mg_M E' s < mg_M E s ↔ (mg_M E (mg_rm (mg_rm s a) b) + 1 = mg_M E s ∧ mg_M E (mg_rm s a) ≠ mg_M E s ∧ ∀ u, u < 10 → u ≠ b → ¬ (s.testBit u = true ∧ (E a).testBit u = true ∧ mg_M E (mg_rm (mg_rm s a) u) + 1 = mg_M E s)) := by
  have K : ∀ t, t < 1024 → t.testBit a = false → mg_M E' t = mg_M E t := by
    intro t ht hta
    refine mg_M_c t ht (fun x y hx hy => ?_)
    have xa : x ≠ a := fun e => by rw [e, hta] at hx; exact absurd hx (by decide)
    have ya : y ≠ a := fun e => by rw [e, hta] at hy; exact absurd hy (by decide)
    by_cases xb : x = b
    · rw [xb, hEb, mg_rm_b, decide_eq_false (fun e => ya e.symm)]
      simp
    · rw [hE x xa xb]
  have na : (mg_rm s a).testBit a = false := by
    rw [mg_rm_b]
    simp
  have na2 : ∀ u, (mg_rm (mg_rm s a) u).testBit a = false := by
    intro u
    rw [mg_rm_b, na]
    rfl
  have l1 : mg_rm s a < 1024 := Nat.lt_of_le_of_lt (mg_rm_le s a) hs
  have l2 : ∀ u, mg_rm (mg_rm s a) u < 1024 := fun u => Nat.lt_of_le_of_lt (mg_rm_le _ u) l1
  have k1 := K _ l1 na
  have k2 : ∀ u, mg_M E' (mg_rm (mg_rm s a) u) = mg_M E (mg_rm (mg_rm s a) u) := fun u => K _ (l2 u) (na2 u)
  obtain ⟨p1, p2, p3⟩ := mg_av sy s hs a ha
  obtain ⟨q1, q2, q3⟩ := mg_av sy' s hs a ha
  constructor
  · intro hlt
    have r1 : mg_M E (mg_rm s a) ≠ mg_M E s := by omega
    have r2 : ∀ u, u < 10 → u ≠ b → ¬ (s.testBit u = true ∧ (E a).testBit u = true ∧ mg_M E (mg_rm (mg_rm s a) u) + 1 = mg_M E s) := by
      rintro u hu hub ⟨h1, h2, h3⟩
      have hua : u ≠ a := fun e => by rw [e, ir] at h2; exact absurd h2 (by decide)
      have := q2 u (mg_rm_i.2 ⟨h1, hua⟩) (by rw [hEa]; exact mg_rm_i.2 ⟨h2, hub⟩)
      rw [k2] at this
      omega
    refine ⟨?_, r1, r2⟩
    rcases p3 with h | ⟨u, h1, h2, h3⟩
    · exact absurd h.symm r1
    · by_cases hub : u = b
      · rw [hub] at h3
        exact h3.symm
      · exact absurd ⟨(mg_rm_i.1 h1).1, h2, h3.symm⟩ (r2 u (mg_bit_lt hs (mg_rm_i.1 h1).1) hub)
  · rintro ⟨r0, r1, r2⟩
    rcases q3 with h | ⟨u, h1, h2, h3⟩
    · omega
    · rw [hEa] at h2
      obtain ⟨h2, hub⟩ := mg_rm_i.1 h2
      have g1 := p2 u h1 h2
      have g2 := r2 u (mg_bit_lt hs (mg_rm_i.1 h1).1) hub
      rw [k2] at h3
      have g3 : mg_M E (mg_rm (mg_rm s a) u) + 1 ≠ mg_M E s := fun e => g2 ⟨(mg_rm_i.1 h1).1, h2, e⟩
      omega
def mg_cn (E : Nat → Nat) (l w u : Nat) : Bool := l.testBit w && l.testBit u && (E w).testBit u && decide (mg_M E (mg_rm (mg_rm l w) u) + 1 = mg_M E l)
theorem mg_cn_i {E : Nat → Nat} {l w u : Nat} : mg_cn E l w u = true ↔ l.testBit w = true ∧ l.testBit u = true ∧ (E w).testBit u = true ∧ mg_M E (mg_rm (mg_rm l w) u) + 1 = mg_M E l := by
  unfold mg_cn
  rw [Bool.and_eq_true, Bool.and_eq_true, Bool.and_eq_true, decide_eq_true_iff]
  exact ⟨fun h => ⟨h.1.1.1, h.1.1.2, h.1.2, h.2⟩, fun h => ⟨⟨⟨h.1, h.2.1⟩, h.2.2.1⟩, h.2.2.2⟩⟩
def mg_fp (E : Nat → Nat) (l w : Nat) : Nat := mg_fs (fun u => mg_cn E l w u) 10 0
theorem mg_fp_le (E : Nat → Nat) (l w : Nat) : mg_fp E l w ≤ 10 := by
  have := mg_fs_le (fun u => mg_cn E l w u) 10 0
  show mg_fs _ _ _ ≤ 10
  omega
theorem mg_fp_c {E : Nat → Nat} {l w : Nat} (h : mg_fp E l w < 10) : mg_cn E l w (mg_fp E l w) = true := by
  have := mg_fs_s (fun u => mg_cn E l w u) 10 0
  unfold mg_fp at h ⊢
  rcases this with h1 | h1
  · exact h1.2.1
  · omega
theorem mg_fp_n {E : Nat → Nat} {l w : Nat} (h : l.testBit w = false) : mg_fp E l w = 10 := by
  rcases Nat.lt_or_eq_of_le (mg_fp_le E l w) with g | g
  · have := (mg_cn_i.1 (mg_fp_c g)).1
    rw [h] at this
    exact absurd this (by decide)
  · exact g
def mg_pt (E : Nat → Nat) (v : Nat) : Nat → Nat → Nat → Nat
  | 0 => fun _ _ => 10
  | n + 1 => fun w l => if w = v ∧ mg_fp E l w < 10 then mg_fp E l w else if mg_fp E l w = v then w else mg_pt E v n (w + 1) (mg_rm (mg_rm l w) (mg_fp E l w))
theorem mg_pt_1 {E : Nat → Nat} {v n w l : Nat} (h : w = v ∧ mg_fp E l w < 10) : mg_pt E v (n + 1) w l = mg_fp E l w := if_pos h
theorem mg_pt_2 {E : Nat → Nat} {v n w l : Nat} (h : ¬ (w = v ∧ mg_fp E l w < 10)) (h2 : mg_fp E l w = v) : mg_pt E v (n + 1) w l = w := (if_neg h).trans (if_pos h2)
theorem mg_pt_3 {E : Nat → Nat} {v n w l : Nat} (h : ¬ (w = v ∧ mg_fp E l w < 10)) (h2 : ¬ mg_fp E l w = v) : mg_pt E v (n + 1) w l = mg_pt E v n (w + 1) (mg_rm (mg_rm l w) (mg_fp E l w)) := (if_neg h).trans (if_neg h2)
theorem mg_pt_t {E : Nat → Nat} {v : Nat} (hv : v < 10) : ∀ n w l, v < w → l.testBit v = false → mg_pt E v n w l = 10 := by
  intro n
  induction n with
  | zero => exact fun w l _ _ => rfl
  | succ n ih =>
    intro w l hw hl
    have h2 : ¬ mg_fp E l w = v := by
      intro e
      have := (mg_cn_i.1 (mg_fp_c (E := E) (l := l) (w := w) (by omega))).2.1
      rw [e, hl] at this
      exact absurd this (by decide)
    rw [mg_pt_3 (fun h => absurd h.1 (by omega)) h2]
    refine ih _ _ (by omega) ?_
    rw [mg_rm_b, mg_rm_b, hl]
    rfl
theorem mg_pt_le {E : Nat → Nat} {v : Nat} : ∀ n w l, w + n ≤ 10 → mg_pt E v n w l ≤ 10 := by
  intro n
  induction n with
  | zero => exact fun w l _ => Nat.le_refl 10
  | succ n ih =>
    intro w l hw
    by_cases h : w = v ∧ mg_fp E l w < 10
    · rw [mg_pt_1 h]
      omega
    · by_cases h2 : mg_fp E l w = v
      · rw [mg_pt_2 h h2]
        omega
      · rw [mg_pt_3 h h2]
        exact ih _ _ (by omega)
