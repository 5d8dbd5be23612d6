def mg_ep (a b i j : Nat) : Prop := (i = a ∧ j = b) ∨ (i = b ∧ j = a)
theorem mg_ad_e {E : Nat → Nat} {a b i j : Nat} (hab : a ≠ b) : (mg_ad E a b i).testBit j = true ↔ ((E i).testBit j = true ∨ mg_ep a b i j) := mg_ad_i hab
/-- X's circle: the edge between b and a, and the way from a to v -/
def mg_XI (E : Nat → Nat) (a b v : Nat) (E' : Nat → Nat) : Prop := mg_G E' ∧ ∀ i j, (E' i).testBit j = true ↔ ((E i).testBit j = true ∨ mg_ep b a i j ∨ ∃ w, a ≤ w ∧ w < v ∧ mg_ep w (w + 1) i j)
/-- Y's circle: the way from a to v -/
def mg_YI (E : Nat → Nat) (a v : Nat) (E' : Nat → Nat) : Prop := mg_G E' ∧ ∀ i j, (E' i).testBit j = true ↔ ((E i).testBit j = true ∨ ∃ w, a ≤ w ∧ w < v ∧ mg_ep w (w + 1) i j)
def mg_no (b : Bool) : Nat := if b = true then 0 else 1
theorem mg_no_t {b : Bool} (h : b = true) : mg_no b = 0 := if_pos h
theorem mg_no_f {b : Bool} (h : ¬ b = true) : mg_no b = 1 := if_neg h
theorem mg_no_le (b : Bool) : mg_no b ≤ 1 := by cases b <;> decide
def mg_sm (E : Nat → Nat) (a : Nat) : Nat → Nat
  | 0 => 0
  | n + 1 => mg_sm E a n + mg_no ((E (a + n)).testBit (a + n + 1))
theorem mg_sm_le (E : Nat → Nat) (a : Nat) : ∀ n, mg_sm E a n ≤ n := by
  intro n
  induction n with
  | zero => exact Nat.le_refl 0
  | succ n ih =>
    have := mg_no_le ((E (a + n)).testBit (a + n + 1))
    show mg_sm E a n + mg_no _ ≤ n + 1
    omega
theorem mg_sm_s (E : Nat → Nat) {a v : Nat} (h : a ≤ v) : mg_sm E a (v + 1 - a) = mg_sm E a (v - a) + mg_no ((E v).testBit (v + 1)) := by
  obtain ⟨n, rfl⟩ : ∃ n, v = a + n := ⟨v - a, by omega⟩
  rw [show a + n + 1 - a = n + 1 from by omega, show a + n - a = n from by omega]
  rfl
theorem mg_XI_0 {E : Nat → Nat} {a b : Nat} (hG : mg_G E) (ha : a < 10) (hb : b < 10) (hab : b ≠ a) : mg_XI E a b a (mg_ad E b a) := by
  refine ⟨mg_G_ad hb ha hab hG, fun i j => ?_⟩
  rw [mg_ad_e hab]
  constructor
  · rintro (h | h)
    · exact Or.inl h
    · exact Or.inr (Or.inl h)
  · rintro (h | h | ⟨w, h1, h2, _⟩)
    · exact Or.inl h
    · exact Or.inr h
    · exact absurd h2 (by omega)
theorem mg_XI_s {E E' : Nat → Nat} {a b v : Nat} (h : mg_XI E a b v E') (hv : a ≤ v) (hb : v < b) (hb10 : b < 10) : mg_XI E a b (v + 1) (mg_ad E' v (v + 1)) := by
  obtain ⟨h1, h2⟩ := h
  refine ⟨mg_G_ad (by omega) (by omega) (by omega) h1, fun i j => ?_⟩
  rw [mg_ad_e (by omega), h2]
  constructor
  · rintro ((h | h | ⟨w, q1, q2, q3⟩) | h)
    · exact Or.inl h
    · exact Or.inr (Or.inl h)
    · exact Or.inr (Or.inr ⟨w, q1, by omega, q3⟩)
    · exact Or.inr (Or.inr ⟨v, hv, by omega, h⟩)
  · rintro (h | h | ⟨w, q1, q2, q3⟩)
    · exact Or.inl (Or.inl h)
    · exact Or.inl (Or.inr (Or.inl h))
    · rcases Nat.lt_or_eq_of_le (Nat.le_of_lt_succ q2) with g | g
      · exact Or.inl (Or.inr (Or.inr ⟨w, q1, g, q3⟩))
      · rw [g] at q3
        exact Or.inr q3
theorem mg_XI_o {E E' : Nat → Nat} {a b v : Nat} (h : mg_XI E a b v E') (hab : a + 2 ≤ b) (hv : a ≤ v) (hb : v < b) : (E' v).testBit (v + 1) = (E v).testBit (v + 1) := by
  apply mg_beq
  rw [h.2]
  constructor
  · rintro (h | (h | h) | ⟨w, q1, q2, (q3 | q3)⟩)
    · exact h
    · omega
    · omega
    · omega
    · omega
  · exact fun h => Or.inl h
theorem mg_YI_0 {E : Nat → Nat} {a : Nat} (hG : mg_G E) : mg_YI E a a E := by
  refine ⟨hG, fun i j => ⟨fun h => Or.inl h, ?_⟩⟩
  rintro (h | ⟨w, h1, h2, _⟩)
  · exact h
  · exact absurd h2 (by omega)
theorem mg_YI_s {E E' : Nat → Nat} {a v : Nat} (h : mg_YI E a v E') (hv : a ≤ v) (hb : v + 1 < 10) : mg_YI E a (v + 1) (mg_ad E' v (v + 1)) := by
  obtain ⟨h1, h2⟩ := h
  refine ⟨mg_G_ad (by omega) (by omega) (by omega) h1, fun i j => ?_⟩
  rw [mg_ad_e (by omega), h2]
  constructor
  · rintro ((h | ⟨w, q1, q2, q3⟩) | h)
    · exact Or.inl h
    · exact Or.inr ⟨w, q1, by omega, q3⟩
    · exact Or.inr ⟨v, hv, by omega, h⟩
  · rintro (h | ⟨w, q1, q2, q3⟩)
    · exact Or.inl (Or.inl h)
    · rcases Nat.lt_or_eq_of_le (Nat.le_of_lt_succ q2) with g | g
      · exact Or.inl (Or.inr ⟨w, q1, g, q3⟩)
      · rw [g] at q3
        exact Or.inr q3
theorem mg_G_in {E : Nat → Nat} {a b i j : Nat} (hG : mg_G E) (ha : a < 10) (hb : b < 10) (h : (E a).testBit b = true) (e : mg_ep a b i j) : (E i).testBit j = true := by
  rcases e with ⟨rfl, rfl⟩ | ⟨rfl, rfl⟩
  · exact h
  · rw [hG.2.1 _ _ hb ha]
    exact h
theorem mg_YI_k {E E' : Nat → Nat} {a v : Nat} (h : mg_YI E a v E') (hv : a ≤ v) (hb : v + 1 < 10) (hh : (E' v).testBit (v + 1) = true) : mg_YI E a (v + 1) E' := by
  obtain ⟨h1, h2⟩ := h
  refine ⟨h1, fun i j => ?_⟩
  constructor
  · intro q
    rcases (h2 i j).1 q with q | ⟨w, q1, q2, q3⟩
    · exact Or.inl q
    · exact Or.inr ⟨w, q1, by omega, q3⟩
  · rintro (q | ⟨w, q1, q2, q3⟩)
    · exact (h2 i j).2 (Or.inl q)
    · rcases Nat.lt_or_eq_of_le (Nat.le_of_lt_succ q2) with g | g
      · exact (h2 i j).2 (Or.inr ⟨w, q1, g, q3⟩)
      · rw [g] at q3
        exact mg_G_in h1 (by omega) hb hh q3
theorem mg_YI_o {E E' : Nat → Nat} {a v : Nat} (h : mg_YI E a v E') (hv : a ≤ v) : (E' v).testBit (v + 1) = (E v).testBit (v + 1) := by
  apply mg_beq
  rw [h.2]
  constructor
  · rintro (h | ⟨w, q1, q2, (q3 | q3)⟩)
    · exact h
    · omega
    · omega
  · exact fun h => Or.inl h
theorem mg_YI_p {E E' : Nat → Nat} {a b : Nat} (h : mg_YI E a b E') (hab : a + 2 ≤ b) : (E' b).testBit a = (E b).testBit a := by
  apply mg_beq
  rw [h.2]
  constructor
  · rintro (h | ⟨w, q1, q2, (q3 | q3)⟩)
    · exact h
    · omega
    · omega
  · exact fun h => Or.inl h
theorem mg_XY {E EX EY : Nat → Nat} {a b : Nat} (hX : mg_XI E a b b EX) (hY : ∀ i j, (EY i).testBit j = true ↔ ((E i).testBit j = true ∨ mg_ep b a i j ∨ ∃ w, a ≤ w ∧ w < b ∧ mg_ep w (w + 1) i j)) : EY = EX := by
  funext i
  apply mg_eq
  intro j
  rw [hY, hX.2]
theorem mg_YI_e1 {E E' : Nat → Nat} {a b : Nat} (h : mg_YI E a b E') (hab : b ≠ a) : ∀ i j, (mg_ad E' b a i).testBit j = true ↔ ((E i).testBit j = true ∨ mg_ep b a i j ∨ ∃ w, a ≤ w ∧ w < b ∧ mg_ep w (w + 1) i j) := by
  intro i j
  rw [mg_ad_e hab, h.2]
  constructor
  · rintro ((q | q) | q)
    · exact Or.inl q
    · exact Or.inr (Or.inr q)
    · exact Or.inr (Or.inl q)
  · rintro (q | q | q)
    · exact Or.inl (Or.inl q)
    · exact Or.inr q
    · exact Or.inl (Or.inr q)
theorem mg_YI_e2 {E E' : Nat → Nat} {a b : Nat} (h : mg_YI E a b E') (ha : a < 10) (hb : b < 10) (hh : (E' b).testBit a = true) : ∀ i j, (E' i).testBit j = true ↔ ((E i).testBit j = true ∨ mg_ep b a i j ∨ ∃ w, a ≤ w ∧ w < b ∧ mg_ep w (w + 1) i j) := by
  intro i j
  constructor
  · intro q
    rcases (h.2 i j).1 q with q | q
    · exact Or.inl q
    · exact Or.inr (Or.inr q)
  · rintro (q | q | q)
    · exact (h.2 i j).2 (Or.inl q)
    · exact mg_G_in h.1 hb ha hh q
    · exact (h.2 i j).2 (Or.inr q)
