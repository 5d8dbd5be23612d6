def mg_bi (b : Bool) : Int32 := if b = true then 1 else 0
theorem mg_bi_c {b : Bool} {A B : Prop} (f : b = false → A) (g : b = true → B) : (mg_bi b = 0 → A) ∧ (¬ mg_bi b = 0 → B) := by
  cases b with
  | false => exact ⟨fun _ => f rfl, fun h => absurd rfl h⟩
  | true => exact ⟨fun h => absurd h (by decide), fun _ => g rfl⟩
theorem mg_bi_n (b : Bool) : narrow .boolean (.int (mg_bi b)) = .int (mg_bi b) := by
  cases b <;> rfl
theorem mg_bi_t {b : Bool} (h : b = true) : mg_bi b = 1 := by rw [h]; rfl
theorem mg_bi_f {b : Bool} (h : b = false) : mg_bi b = 0 := by rw [h]; rfl
theorem mg_ff {b : Bool} (h : ¬ b = true) : b = false := by
  cases b with
  | false => rfl
  | true => exact absurd rfl h
theorem mg_hc {s v : Nat} {A B : Prop} (hs : s < 1024) (hv : v < 10) (f : s.testBit v = true → A) (g : s.testBit v = false → B) : (((nI s >>> (nI v &&& 31)) &&& 1) = 1 → A) ∧ (¬ ((nI s >>> (nI v &&& 31)) &&& 1) = 1 → B) := by
  rw [mg_has1 hs hv]
  exact ⟨f, fun h => g (mg_ff h)⟩
def mg_A (f : Nat → Int32) (E : Nat → Nat) : Prop := ∀ i, i < 10 → f i = nI (E i)
def mg_T (t : Nat → Int32) (E : Nat → Nat) : Prop := ∀ j, j < 1024 → t j = nI (mg_M E j)
def mg_G (E : Nat → Nat) : Prop := (∀ a, a < 10 → E a < 1024) ∧ mg_sy E ∧ ∀ a, a < 10 → (E a).testBit a = false
theorem mg_Ar {f : Nat → Int32} {E : Nat → Nat} {v : Nat} (h : mg_A f E) (hv : v < 10) : f (nI v).toNatClampNeg = nI (E v) := by
  rw [nI_clamp (by omega)]
  exact h v hv
theorem mg_Tr {t : Nat → Int32} {E : Nat → Nat} {j : Nat} (h : mg_T t E) (hj : j < 1024) : t (nI j).toNatClampNeg = nI (mg_M E j) := by
  rw [nI_clamp (by omega)]
  exact h j hj
theorem mg_rm_1 {s a : Nat} (h : s < 1024) : mg_rm s a < 1024 := Nat.lt_of_le_of_lt (mg_rm_le s a) h
theorem mg_sd_1 {s a : Nat} (h : s < 1024) : mg_sd s a < 1024 := Nat.lt_of_le_of_lt (mg_sd_le s a) h
theorem mg_an_1 {s a : Nat} (h : s < 1024) : s &&& a < 1024 := Nat.lt_of_le_of_lt Nat.and_le_left h
def mg_vo (p : Nat) : Int32 := if p < 10 then nI p else -2
theorem mg_vo_1 {p : Nat} (h : p < 10) : mg_vo p = nI p := if_pos h
theorem mg_vo_2 {p : Nat} (h : ¬ p < 10) : mg_vo p = -2 := if_neg h
theorem mg_ne2 : ∀ p, p < 10 → ¬ nI p = -2 := by decide +kernel
theorem mg_ne1 : ∀ p, p < 10 → ¬ nI p = -1 := by decide +kernel
theorem mg_nl0 {p : Nat} (h : p < 10) : ¬ nI p < 0 := nI_pos (by omega)
/-- the graph with the edge between a and b put in, or taken out -/
def mg_ad (E : Nat → Nat) (a b : Nat) : Nat → Nat := fun i => if i = b then E b ||| 2 ^ a else if i = a then E a ||| 2 ^ b else E i
def mg_cu (E : Nat → Nat) (a b : Nat) : Nat → Nat := fun i => if i = b then mg_rm (E b) a else if i = a then mg_rm (E a) b else E i
theorem mg_ad_i {E : Nat → Nat} {a b i j : Nat} (hab : a ≠ b) : (mg_ad E a b i).testBit j = true ↔ ((E i).testBit j = true ∨ (i = a ∧ j = b) ∨ (i = b ∧ j = a)) := by
  unfold mg_ad
  by_cases h1 : i = b
  · rw [if_pos h1, Nat.testBit_or, Bool.or_eq_true, mg_p2b, h1]
    constructor
    · rintro (h | h)
      · exact Or.inl h
      · exact Or.inr (Or.inr ⟨rfl, h.symm⟩)
    · rintro (h | h | h)
      · exact Or.inl h
      · exact absurd h.1.symm hab
      · exact Or.inr h.2.symm
  · rw [if_neg h1]
    by_cases h2 : i = a
    · rw [if_pos h2, Nat.testBit_or, Bool.or_eq_true, mg_p2b, h2]
      constructor
      · rintro (h | h)
        · exact Or.inl h
        · exact Or.inr (Or.inl ⟨rfl, h.symm⟩)
      · rintro (h | h | h)
        · exact Or.inl h
        · exact Or.inr h.2.symm
        · exact absurd h.1 hab
    · rw [if_neg h2]
      exact ⟨fun h => Or.inl h, fun h => by
        rcases h with h | h | h
        · exact h
        · exact absurd h.1 h2
        · exact absurd h.1 h1⟩
theorem mg_cu_i {E : Nat → Nat} {a b i j : Nat} (hab : a ≠ b) : (mg_cu E a b i).testBit j = true ↔ ((E i).testBit j = true ∧ ¬ (i = a ∧ j = b) ∧ ¬ (i = b ∧ j = a)) := by
  unfold mg_cu
  by_cases h1 : i = b
  · rw [if_pos h1, mg_rm_i, h1]
    exact ⟨fun h => ⟨h.1, fun q => hab q.1.symm, fun q => h.2 q.2⟩, fun h => ⟨h.1, fun q => h.2.2 ⟨rfl, q⟩⟩⟩
  · rw [if_neg h1]
    by_cases h2 : i = a
    · rw [if_pos h2, mg_rm_i, h2]
      exact ⟨fun h => ⟨h.1, fun q => h.2 q.2, fun q => hab q.1⟩, fun h => ⟨h.1, fun q => h.2.1 ⟨rfl, q⟩⟩⟩
    · rw [if_neg h2]
      exact ⟨fun h => ⟨h, fun q => h2 q.1, fun q => h1 q.1⟩, fun h => h.1⟩
theorem mg_beq {x y : Bool} (h : x = true ↔ y = true) : x = y := by
  cases x <;> cases y
  · rfl
  · exact absurd (h.2 rfl) (by decide)
  · exact absurd (h.1 rfl) (by decide)
  · rfl
theorem mg_G_ad {E : Nat → Nat} {a b : Nat} (ha : a < 10) (hb : b < 10) (hab : a ≠ b) (h : mg_G E) : mg_G (mg_ad E a b) := by
  obtain ⟨h1, h2, h3⟩ := h
  refine ⟨fun i hi => mg_lt (fun j hj => ?_), fun i j hi hj => mg_beq ?_, fun i hi => mg_ff (fun h => ?_)⟩
  · rcases (mg_ad_i hab).1 hj with q | q | q
    · exact mg_bit_lt (h1 i hi) q
    · omega
    · omega
  · rw [mg_ad_i hab, mg_ad_i hab, h2 i j hi hj]
    exact ⟨fun h => by
      rcases h with q | q | q
      · exact Or.inl q
      · exact Or.inr (Or.inr ⟨q.2, q.1⟩)
      · exact Or.inr (Or.inl ⟨q.2, q.1⟩), fun h => by
      rcases h with q | q | q
      · exact Or.inl q
      · exact Or.inr (Or.inr ⟨q.2, q.1⟩)
      · exact Or.inr (Or.inl ⟨q.2, q.1⟩)⟩
  · rcases (mg_ad_i hab).1 h with q | q | q
    · rw [h3 i hi] at q
      exact absurd q (by decide)
    · omega
    · omega
theorem mg_G_cu {E : Nat → Nat} {a b : Nat} (hab : a ≠ b) (h : mg_G E) : mg_G (mg_cu E a b) := by
  obtain ⟨h1, h2, h3⟩ := h
  refine ⟨fun i hi => mg_lt (fun j hj => ?_), fun i j hi hj => mg_beq ?_, fun i hi => mg_ff (fun h => ?_)⟩
  · exact mg_bit_lt (h1 i hi) ((mg_cu_i hab).1 hj).1
  · rw [mg_cu_i hab, mg_cu_i hab, h2 i j hi hj]
    exact ⟨fun h => ⟨h.1, fun q => h.2.2 ⟨q.2, q.1⟩, fun q => h.2.1 ⟨q.2, q.1⟩⟩, fun h => ⟨h.1, fun q => h.2.2 ⟨q.2, q.1⟩, fun q => h.2.1 ⟨q.2, q.1⟩⟩⟩
  · have := ((mg_cu_i hab).1 h).1
    rw [h3 i hi] at this
    exact absurd this (by decide)
theorem mg_G_0 : mg_G (fun _ => 0) := ⟨fun _ _ => (by decide : (0 : Nat) < 1024), fun a b _ _ => by
  show (0 : Nat).testBit b = (0 : Nat).testBit a
  rw [Nat.zero_testBit, Nat.zero_testBit], fun a _ => Nat.zero_testBit a⟩
theorem mg_A_ad {f : Nat → Int32} {E : Nat → Nat} {a b : Nat} (ha : a < 10) (hb : b < 10) (hab : a ≠ b) (h : mg_A f E) : mg_A (upd (upd f a (nI (E a ||| 2 ^ b))) b (nI (E b ||| 2 ^ a))) (mg_ad E a b) := by
  intro i hi
  unfold mg_ad
  by_cases h1 : i = b
  · rw [if_pos h1, h1, pk_us]
  · rw [if_neg h1, pk_un h1]
    by_cases h2 : i = a
    · rw [if_pos h2, h2, pk_us]
    · rw [if_neg h2, pk_un h2]
      exact h i hi
theorem mg_A_cu {f : Nat → Int32} {E : Nat → Nat} {a b : Nat} (ha : a < 10) (hb : b < 10) (hab : a ≠ b) (h : mg_A f E) : mg_A (upd (upd f a (nI (mg_rm (E a) b))) b (nI (mg_rm (E b) a))) (mg_cu E a b) := by
  intro i hi
  unfold mg_cu
  by_cases h1 : i = b
  · rw [if_pos h1, h1, pk_us]
  · rw [if_neg h1, pk_un h1]
    by_cases h2 : i = a
    · rw [if_pos h2, h2, pk_us]
    · rw [if_neg h2, pk_un h2]
      exact h i hi
