def mg_set (p : Nat → Bool) : Nat → Nat
  | 0 => 0
  | k + 1 => if p k = true then mg_set p k ||| 2 ^ k else mg_set p k
theorem mg_set_t {p : Nat → Bool} {k : Nat} (h : p k = true) : mg_set p (k + 1) = mg_set p k ||| 2 ^ k := if_pos h
theorem mg_set_f {p : Nat → Bool} {k : Nat} (h : ¬ p k = true) : mg_set p (k + 1) = mg_set p k := if_neg h
theorem mg_set_i {p : Nat → Bool} {i : Nat} : ∀ {k : Nat}, (mg_set p k).testBit i = true ↔ i < k ∧ p i = true := by
  intro k
  induction k with
  | zero =>
    show (0 : Nat).testBit i = true ↔ _
    rw [Nat.zero_testBit]
    exact ⟨fun h => absurd h (by decide), fun h => absurd h.1 (by omega)⟩
  | succ k ih =>
    by_cases h : p k = true
    · rw [mg_set_t h, Nat.testBit_or, Bool.or_eq_true, ih, Nat.testBit_two_pow, decide_eq_true_iff]
      constructor
      · rintro (⟨a, b⟩ | e)
        · exact ⟨by omega, b⟩
        · rw [← e]
          exact ⟨by omega, h⟩
      · rintro ⟨a, b⟩
        rcases Nat.lt_or_eq_of_le (Nat.le_of_lt_succ a) with g | g
        · exact Or.inl ⟨g, b⟩
        · exact Or.inr g.symm
    · rw [mg_set_f h, ih]
      constructor
      · rintro ⟨a, b⟩
        exact ⟨by omega, b⟩
      · rintro ⟨a, b⟩
        rcases Nat.lt_or_eq_of_le (Nat.le_of_lt_succ a) with g | g
        · exact ⟨g, b⟩
        · rw [g] at b
          exact absurd b h
theorem mg_set_lt {p : Nat → Bool} {k : Nat} (hk : k ≤ 10) : mg_set p k < 1024 := mg_lt (fun i h => by have := mg_set_i.1 h; omega)
theorem mg_set_c {p q : Nat → Bool} : ∀ k, (∀ i, i < k → p i = q i) → mg_set p k = mg_set q k := by
  intro k h
  apply mg_eq
  intro i
  rw [mg_set_i, mg_set_i]
  exact ⟨fun g => ⟨g.1, by rw [← h i g.1]; exact g.2⟩, fun g => ⟨g.1, by rw [h i g.1]; exact g.2⟩⟩
def mg_ct (p : Nat → Bool) : Nat → Nat
  | 0 => 0
  | k + 1 => mg_ct p k + (p k).toNat
theorem mg_ct_le (p : Nat → Bool) : ∀ k, mg_ct p k ≤ k := by
  intro k
  induction k with
  | zero => exact Nat.le_refl 0
  | succ k ih =>
    have : (p k).toNat ≤ 1 := by cases p k <;> decide
    show mg_ct p k + (p k).toNat ≤ k + 1
    omega
theorem mg_ct_mono {p q : Nat → Bool} : ∀ k, (∀ i, i < k → p i = true → q i = true) → mg_ct p k ≤ mg_ct q k := by
  intro k
  induction k with
  | zero => exact fun _ => Nat.le_refl 0
  | succ k ih =>
    intro h
    have h1 := ih (fun i hi => h i (by omega))
    have h2 : (p k).toNat ≤ (q k).toNat := by
      have := h k (by omega)
      cases hp : p k with
      | false => exact Nat.zero_le _
      | true => rw [this hp]; exact Nat.le_refl _
    show mg_ct p k + (p k).toNat ≤ mg_ct q k + (q k).toNat
    omega
theorem mg_ct_lt {p q : Nat → Bool} {j : Nat} : ∀ k, j < k → (∀ i, i < k → p i = true → q i = true) → p j = false → q j = true → mg_ct p k < mg_ct q k := by
  intro k
  induction k with
  | zero => exact fun h => absurd h (Nat.not_lt_zero j)
  | succ k ih =>
    intro hj h h1 h2
    show mg_ct p k + (p k).toNat < mg_ct q k + (q k).toNat
    rcases Nat.lt_or_eq_of_le (Nat.le_of_lt_succ hj) with g | g
    · have g1 := ih g (fun i hi => h i (by omega)) h1 h2
      have g2 : (p k).toNat ≤ (q k).toNat := by
        have := h k (by omega)
        cases hp : p k with
        | false => exact Nat.zero_le _
        | true => rw [this hp]; exact Nat.le_refl _
      omega
    · have g1 := mg_ct_mono k (fun i hi => h i (by omega))
      rw [← g, h1, h2]
      rw [← g] at g1
      show mg_ct p j + 0 < mg_ct q j + 1
      omega
theorem mg_ct_add {p q r : Nat → Bool} : ∀ k, (∀ i, i < k → (p i).toNat = (q i).toNat + (r i).toNat) → mg_ct p k = mg_ct q k + mg_ct r k := by
  intro k
  induction k with
  | zero => exact fun _ => rfl
  | succ k ih =>
    intro h
    have h1 := ih (fun i hi => h i (by omega))
    have h2 := h k (by omega)
    show mg_ct p k + (p k).toNat = mg_ct q k + (q k).toNat + (mg_ct r k + (r k).toNat)
    omega
abbrev mg_cd (g : Nat) : Nat := mg_ct (fun i => g.testBit i) 10
def mg_fb (E : Nat → Nat) (s v : Nat) : Bool := s.testBit v && decide (mg_M E (mg_rm s v) = mg_M E s)
theorem mg_fb_i {E : Nat → Nat} {s v : Nat} : mg_fb E s v = true ↔ s.testBit v = true ∧ mg_M E (mg_rm s v) = mg_M E s := by
  unfold mg_fb
  rw [Bool.and_eq_true, decide_eq_true_iff]
def mg_fr (E : Nat → Nat) (s : Nat) : Nat := mg_set (mg_fb E s) 10
theorem mg_fr_i {E : Nat → Nat} {s v : Nat} : (mg_fr E s).testBit v = true ↔ v < 10 ∧ s.testBit v = true ∧ mg_M E (mg_rm s v) = mg_M E s := by
  unfold mg_fr
  rw [mg_set_i, mg_fb_i]
theorem mg_fr_lt (E : Nat → Nat) (s : Nat) : mg_fr E s < 1024 := mg_set_lt (Nat.le_refl 10)
def mg_nd (E : Nat → Nat) (s v : Nat) : Bool := s.testBit v && decide (mg_M E (mg_rm s v) < mg_M E s)
theorem mg_nd_i {E : Nat → Nat} {s v : Nat} : mg_nd E s v = true ↔ s.testBit v = true ∧ mg_M E (mg_rm s v) < mg_M E s := by
  unfold mg_nd
  rw [Bool.and_eq_true, decide_eq_true_iff]
theorem mg_need {E : Nat → Nat} {s : Nat} (hs : s < 1024) (sy : mg_sy E) : mg_cd s = mg_cd (mg_fr E s) + mg_ct (mg_nd E s) 10 := by
  refine mg_ct_add 10 (fun v hv => ?_)
  cases h : s.testBit v with
  | false =>
    have h1 : (mg_fr E s).testBit v = false := by
      cases g : (mg_fr E s).testBit v with
      | false => rfl
      | true => rw [(mg_fr_i.1 g).2.1] at h; exact absurd h (by decide)
    have h2 : mg_nd E s v = false := by
      cases g : mg_nd E s v with
      | false => rfl
      | true => rw [(mg_nd_i.1 g).1] at h; exact absurd h (by decide)
    rw [h1, h2]
    rfl
  | true =>
    have p1 := (mg_av sy s hs v h).1
    rcases Nat.lt_or_eq_of_le p1 with g | g
    · have h1 : (mg_fr E s).testBit v = false := by
        cases q : (mg_fr E s).testBit v with
        | false => rfl
        | true => have := (mg_fr_i.1 q).2.2; omega
      rw [h1, mg_nd_i.2 ⟨h, g⟩]
      rfl
    · have h2 : mg_nd E s v = false := by
        cases q : mg_nd E s v with
        | false => rfl
        | true => have := (mg_nd_i.1 q).2; omega
      rw [mg_fr_i.2 ⟨hv, h, g⟩, h2]
      rfl
def mg_bd (E : Nat → Nat) (s v u : Nat) : Bool := s.testBit u && (E v).testBit u && decide (mg_M E (mg_rm s u) = mg_M E s)
theorem mg_bd_i {E : Nat → Nat} {s v u : Nat} : mg_bd E s v u = true ↔ (s.testBit u = true ∧ (E v).testBit u = true) ∧ mg_M E (mg_rm s u) = mg_M E s := by
  unfold mg_bd
  rw [Bool.and_eq_true, Bool.and_eq_true, decide_eq_true_iff]
def mg_po (E : Nat → Nat) (s v : Nat) : Nat := if s.testBit v = true then (if mg_M E (mg_rm s v) = mg_M E s then 1 else if mg_fs (mg_bd E s v) 10 0 < 10 then 2 else 3) else 0
theorem mg_po_le (E : Nat → Nat) (s v : Nat) : mg_po E s v ≤ 3 := by
  unfold mg_po
  by_cases h1 : s.testBit v = true
  · rw [if_pos h1]
    by_cases h2 : mg_M E (mg_rm s v) = mg_M E s
    · rw [if_pos h2]; decide
    · rw [if_neg h2]
      by_cases h3 : mg_fs (mg_bd E s v) 10 0 < 10
      · rw [if_pos h3]; decide
      · rw [if_neg h3]; decide
  · rw [if_neg h1]; decide
theorem mg_po_x {E : Nat → Nat} {s v : Nat} : E v &&& mg_fr E s = 0 ↔ ¬ mg_fs (mg_bd E s v) 10 0 < 10 := by
  constructor
  · intro h c
    rcases mg_fs_s (mg_bd E s v) 10 0 with g | g
    · have := mg_bd_i.1 g.2.1
      have e : (E v &&& mg_fr E s).testBit (mg_fs (mg_bd E s v) 10 0) = true := by
        rw [Nat.testBit_and, this.1.2, mg_fr_i.2 ⟨c, this.1.1, this.2⟩]
        rfl
      rw [h, Nat.zero_testBit] at e
      exact absurd e (by decide)
    · omega
  · intro h
    apply mg_eq
    intro i
    rw [Nat.testBit_and, Bool.and_eq_true, mg_fr_i, Nat.zero_testBit]
    constructor
    · rintro ⟨h1, h2, h3, h4⟩
      rcases mg_fs_s (mg_bd E s v) 10 0 with g | g
      · exact absurd (by have := g.1; omega) h
      · have := g.2 i (Nat.zero_le i) (by omega)
        rw [mg_bd_i.2 ⟨⟨h3, h1⟩, h4⟩] at this
        exact absurd this (by decide)
    · intro h
      exact absurd h (by decide)
def mg_nb (E : Nat → Nat) (s : Nat) : Nat → Nat
  | 0 => 0
  | k + 1 => if s.testBit k = true then mg_nb E s k ||| E k else mg_nb E s k
theorem mg_nb_t {E : Nat → Nat} {s k : Nat} (h : s.testBit k = true) : mg_nb E s (k + 1) = mg_nb E s k ||| E k := if_pos h
theorem mg_nb_f {E : Nat → Nat} {s k : Nat} (h : ¬ s.testBit k = true) : mg_nb E s (k + 1) = mg_nb E s k := if_neg h
theorem mg_nb_i {E : Nat → Nat} {s i : Nat} : ∀ {k : Nat}, (mg_nb E s k).testBit i = true ↔ ∃ v, v < k ∧ s.testBit v = true ∧ (E v).testBit i = true := by
  intro k
  induction k with
  | zero =>
    show (0 : Nat).testBit i = true ↔ _
    rw [Nat.zero_testBit]
    exact ⟨fun h => absurd h (by decide), fun ⟨v, h, _⟩ => absurd h (by omega)⟩
  | succ k ih =>
    by_cases h : s.testBit k = true
    · rw [mg_nb_t h, Nat.testBit_or, Bool.or_eq_true, ih]
      constructor
      · rintro (⟨v, a, b⟩ | e)
        · exact ⟨v, by omega, b⟩
        · exact ⟨k, by omega, h, e⟩
      · rintro ⟨v, a, b, c⟩
        rcases Nat.lt_or_eq_of_le (Nat.le_of_lt_succ a) with g | g
        · exact Or.inl ⟨v, g, b, c⟩
        · rw [g] at c
          exact Or.inr c
    · rw [mg_nb_f h, ih]
      constructor
      · rintro ⟨v, a, b⟩
        exact ⟨v, by omega, b⟩
      · rintro ⟨v, a, b, c⟩
        rcases Nat.lt_or_eq_of_le (Nat.le_of_lt_succ a) with g | g
        · exact ⟨v, g, b, c⟩
        · rw [g] at b
          exact absurd b h
theorem mg_nb_lt {E : Nat → Nat} {s : Nat} (hE : ∀ a, a < 10 → E a < 1024) {k : Nat} (hk : k ≤ 10) : mg_nb E s k < 1024 := mg_lt (fun i h => by
  obtain ⟨v, h1, h2, h3⟩ := mg_nb_i.1 h
  exact mg_bit_lt (hE v (by omega)) h3)
def mg_st (E : Nat → Nat) (d g : Nat) : Nat := g ||| (mg_nb E g 10 &&& d)
def mg_it (E : Nat → Nat) (d : Nat) : Nat → Nat → Nat
  | 0 => fun g => g
  | n + 1 => fun g => mg_it E d n (mg_st E d g)
def mg_pa (E : Nat → Nat) (d g : Nat) : Nat → Nat
  | 0 => g
  | k + 1 => if (mg_pa E d g k).testBit k = true then mg_pa E d g k ||| (E k &&& d) else mg_pa E d g k
theorem mg_pa_t {E : Nat → Nat} {d g k : Nat} (h : (mg_pa E d g k).testBit k = true) : mg_pa E d g (k + 1) = mg_pa E d g k ||| (E k &&& d) := if_pos h
theorem mg_pa_f {E : Nat → Nat} {d g k : Nat} (h : ¬ (mg_pa E d g k).testBit k = true) : mg_pa E d g (k + 1) = mg_pa E d g k := if_neg h
def mg_ip (E : Nat → Nat) (d : Nat) : Nat → Nat → Nat
  | 0 => fun g => g
  | n + 1 => fun g => mg_ip E d n (mg_pa E d g 10)
def mg_cls (E : Nat → Nat) (d g : Nat) : Prop := ∀ i j, i < 10 → g.testBit i = true → (E i).testBit j = true → d.testBit j = true → g.testBit j = true
def mg_su (g h : Nat) : Prop := ∀ i, g.testBit i = true → h.testBit i = true
theorem mg_or_l {a b i : Nat} (h : a.testBit i = true) : (a ||| b).testBit i = true := by
  rw [Nat.testBit_or, h]
  rfl
theorem mg_or_r {a b i : Nat} (h : b.testBit i = true) : (a ||| b).testBit i = true := by
  rw [Nat.testBit_or, h, Bool.or_true]
theorem mg_an {a b i : Nat} (h : a.testBit i = true) (h' : b.testBit i = true) : (a &&& b).testBit i = true := by
  rw [Nat.testBit_and, h, h']
  rfl
theorem mg_or_e {a b i : Nat} (h : (a ||| b).testBit i = true) : a.testBit i = true ∨ b.testBit i = true := by
  rw [Nat.testBit_or, Bool.or_eq_true] at h
  exact h
theorem mg_an_e {a b i : Nat} (h : (a &&& b).testBit i = true) : a.testBit i = true ∧ b.testBit i = true := by
  rw [Nat.testBit_and, Bool.and_eq_true] at h
  exact h
/-- one step T of a closing: it grows, it takes in all neighbours, it stays within every closed set, it stays small -/
def mg_stp (E : Nat → Nat) (d : Nat) (T : Nat → Nat) : Prop := ∀ g, g < 1024 → T g < 1024 ∧ mg_su g (T g) ∧ (∀ i j, i < 10 → g.testBit i = true → (E i).testBit j = true → d.testBit j = true → (T g).testBit j = true) ∧ ∀ D, mg_cls E d D → mg_su g D → mg_su (T g) D
def mg_nt (T : Nat → Nat) : Nat → Nat → Nat
  | 0 => fun g => g
  | n + 1 => fun g => mg_nt T n (T g)
theorem mg_nt_it (E : Nat → Nat) (d : Nat) : ∀ n g, mg_it E d n g = mg_nt (mg_st E d) n g := by
  intro n
  induction n with
  | zero => exact fun g => rfl
  | succ n ih => exact fun g => ih _
theorem mg_nt_ip (E : Nat → Nat) (d : Nat) : ∀ n g, mg_ip E d n g = mg_nt (fun g => mg_pa E d g 10) n g := by
  intro n
  induction n with
  | zero => exact fun g => rfl
  | succ n ih => exact fun g => ih _
theorem mg_full {E : Nat → Nat} {d g : Nat} (hE : ∀ a, a < 10 → E a < 1024) (h : 10 ≤ mg_cd g) : mg_cls E d g := by
  intro i j hi _ hj _
  have j10 := mg_bit_lt (hE i hi) hj
  cases q : g.testBit j with
  | true => rfl
  | false =>
    have := mg_ct_lt (p := fun i => g.testBit i) (q := fun _ => true) (j := j) 10 j10 (fun _ _ _ => rfl) q rfl
    have := mg_ct_le (fun _ => true) 10
    have h' : 10 ≤ mg_ct (fun i => g.testBit i) 10 := h
    omega
theorem mg_nt_cls {E : Nat → Nat} {d : Nat} {T : Nat → Nat} (hE : ∀ a, a < 10 → E a < 1024) (hT : mg_stp E d T) : ∀ n g, g < 1024 → (mg_cls E d g ∨ 10 ≤ mg_cd g + n) → mg_cls E d (mg_nt T n g) := by
  intro n
  induction n with
  | zero =>
    intro g hg h
    rcases h with h | h
    · exact h
    · exact mg_full hE h
  | succ n ih =>
    intro g hg h
    obtain ⟨t1, t2, t3, t4⟩ := hT g hg
    show mg_cls E d (mg_nt T n (T g))
    by_cases e : T g = g
    · rw [e]
      refine ih g hg (Or.inl ?_)
      intro i j hi h1 h2 h3
      have := t3 i j hi h1 h2 h3
      rw [e] at this
      exact this
    · refine ih (T g) t1 ?_
      rcases h with h | h
      · refine absurd ?_ e
        exact mg_eq (fun i => ⟨t4 g h (fun _ q => q) i, t2 i⟩)
      · right
        obtain ⟨j, hj⟩ := Nat.exists_testBit_ne_of_ne e
        have j1 : (T g).testBit j = true := by
          cases q : (T g).testBit j with
          | true => rfl
          | false =>
            rw [q] at hj
            cases q2 : g.testBit j with
            | false => rw [q2] at hj; exact absurd rfl hj
            | true => rw [t2 j q2] at q; exact absurd q (by decide)
        have j2 : g.testBit j = false := by
          cases q : g.testBit j with
          | false => rfl
          | true => rw [j1, q] at hj; exact absurd rfl hj
        have := mg_ct_lt (p := fun i => g.testBit i) (q := fun i => (T g).testBit i) (j := j) 10 (mg_bit_lt t1 j1) (fun i _ => t2 i) j2 j1
        show 10 ≤ mg_ct (fun i => (T g).testBit i) 10 + n
        have h' : 10 ≤ mg_ct (fun i => g.testBit i) 10 + (n + 1) := h
        omega
theorem mg_nt_su {E : Nat → Nat} {d : Nat} {T : Nat → Nat} (hT : mg_stp E d T) : ∀ n g, g < 1024 → mg_nt T n g < 1024 ∧ mg_su g (mg_nt T n g) ∧ ∀ D, mg_cls E d D → mg_su g D → mg_su (mg_nt T n g) D := by
  intro n
  induction n with
  | zero => exact fun g hg => ⟨hg, fun _ h => h, fun _ _ h => h⟩
  | succ n ih =>
    intro g hg
    obtain ⟨t1, t2, t3, t4⟩ := hT g hg
    obtain ⟨i1, i2, i3⟩ := ih (T g) t1
    exact ⟨i1, fun i h => i2 i (t2 i h), fun D h1 h2 => i3 D h1 (t4 D h1 h2)⟩
theorem mg_st_s {E : Nat → Nat} {d : Nat} (hE : ∀ a, a < 10 → E a < 1024) : mg_stp E d (mg_st E d) := by
  intro g hg
  refine ⟨?_, fun i h => mg_or_l h, ?_, ?_⟩
  · refine mg_orlt hg (Nat.lt_of_le_of_lt Nat.and_le_left (mg_nb_lt hE (Nat.le_refl 10)))
  · intro i j hi h1 h2 h3
    exact mg_or_r (mg_an (mg_nb_i.2 ⟨i, hi, h1, h2⟩) h3)
  · intro D h1 h2 i h
    rcases mg_or_e h with q | q
    · exact h2 i q
    · obtain ⟨q1, q2⟩ := mg_an_e q
      obtain ⟨v, v1, v2, v3⟩ := mg_nb_i.1 q1
      exact h1 v i v1 (h2 v v2) v3 q2
theorem mg_pa_s1 {E : Nat → Nat} {d g : Nat} (hE : ∀ a, a < 10 → E a < 1024) (hg : g < 1024) : ∀ k, k ≤ 10 → mg_pa E d g k < 1024 ∧ mg_su g (mg_pa E d g k) ∧ (∀ i j, i < k → g.testBit i = true → (E i).testBit j = true → d.testBit j = true → (mg_pa E d g k).testBit j = true) ∧ ∀ D, mg_cls E d D → mg_su g D → mg_su (mg_pa E d g k) D := by
  intro k
  induction k with
  | zero => exact fun _ => ⟨hg, fun _ h => h, fun i j h => absurd h (by omega), fun _ _ h => h⟩
  | succ k ih =>
    intro hk
    obtain ⟨i1, i2, i3, i4⟩ := ih (by omega)
    by_cases c : (mg_pa E d g k).testBit k = true
    · rw [mg_pa_t c]
      refine ⟨mg_orlt i1 (Nat.lt_of_le_of_lt Nat.and_le_left (hE k (by omega))), fun i h => mg_or_l (i2 i h), ?_, ?_⟩
      · intro i j hi h1 h2 h3
        rcases Nat.lt_or_eq_of_le (Nat.le_of_lt_succ hi) with q | q
        · exact mg_or_l (i3 i j q h1 h2 h3)
        · rw [q] at h2
          exact mg_or_r (mg_an h2 h3)
      · intro D h1 h2 i h
        rcases mg_or_e h with q | q
        · exact i4 D h1 h2 i q
        · obtain ⟨q1, q2⟩ := mg_an_e q
          exact h1 k i (by omega) (i4 D h1 h2 k c) q1 q2
    · rw [mg_pa_f c]
      refine ⟨i1, i2, ?_, i4⟩
      intro i j hi h1 h2 h3
      rcases Nat.lt_or_eq_of_le (Nat.le_of_lt_succ hi) with q | q
      · exact i3 i j q h1 h2 h3
      · rw [q] at h1
        exact absurd (i2 k h1) c
theorem mg_pa_s {E : Nat → Nat} {d : Nat} (hE : ∀ a, a < 10 → E a < 1024) : mg_stp E d (fun g => mg_pa E d g 10) := fun g hg => mg_pa_s1 hE hg 10 (Nat.le_refl 10)
def mg_isc (E : Nat → Nat) (d v g : Nat) : Prop := g < 1024 ∧ g.testBit v = true ∧ mg_cls E d g ∧ ∀ D, D.testBit v = true → mg_cls E d D → mg_su g D
theorem mg_p2b {v i : Nat} : (2 ^ v).testBit i = true ↔ v = i := by
  rw [Nat.testBit_two_pow, decide_eq_true_iff]
theorem mg_cd_p {v : Nat} (hv : v < 10) : 0 < mg_ct (fun i => (2 ^ v).testBit i) 10 := by
  have e : (2 ^ v).testBit v = true := mg_p2b.2 rfl
  generalize 2 ^ v = g at e ⊢
  exact Nat.lt_of_le_of_lt (Nat.zero_le _) (mg_ct_lt (p := fun _ => false) (q := fun i => g.testBit i) (j := v) 10 hv (fun _ _ h => absurd (show false = true from h) (by decide)) rfl e)
theorem mg_nt_isc {E : Nat → Nat} {d v n : Nat} {T : Nat → Nat} (hE : ∀ a, a < 10 → E a < 1024) (hT : mg_stp E d T) (hv : v < 10) (hn : 9 ≤ n) : mg_isc E d v (mg_nt T n (2 ^ v)) := by
  have hg := mg_p2lt hv
  have e : ∀ i, (2 ^ v).testBit i = true ↔ v = i := fun i => mg_p2b
  have hp := mg_cd_p hv
  generalize 2 ^ v = g at e hp hg ⊢
  obtain ⟨i1, i2, i3⟩ := mg_nt_su hT n g hg
  have hq : 10 ≤ mg_ct (fun i => g.testBit i) 10 + n := by omega
  refine ⟨i1, i2 v ((e v).2 rfl), mg_nt_cls hE hT n g hg (Or.inr hq), ?_⟩
  intro D h1 h2
  refine i3 D h2 (fun i h => ?_)
  rw [← (e i).1 h]
  exact h1
def mg_comp (E : Nat → Nat) (d v : Nat) : Nat := mg_it E d 9 (2 ^ v)
theorem mg_comp_s {E : Nat → Nat} {d v : Nat} (hE : ∀ a, a < 10 → E a < 1024) (hv : v < 10) : mg_isc E d v (mg_comp E d v) := by
  unfold mg_comp
  rw [mg_nt_it]
  exact mg_nt_isc hE (mg_st_s hE) hv (Nat.le_refl 9)
theorem mg_hang_s {E : Nat → Nat} {d v : Nat} (hE : ∀ a, a < 10 → E a < 1024) (hv : v < 10) : mg_isc E d v (mg_ip E d 10 (2 ^ v)) := by
  rw [mg_nt_ip]
  exact mg_nt_isc hE (mg_pa_s hE) hv (by omega)
theorem mg_left {E : Nat → Nat} {f l v C C' : Nat} (hl : mg_su l f) (hc : mg_cls E f l) (hv : l.testBit v = true) (h : mg_isc E f v C) (h' : mg_isc E l v C') : C' = C := by
  obtain ⟨a1, a2, a3, a4⟩ := h
  obtain ⟨b1, b2, b3, b4⟩ := h'
  have Cl : mg_su C l := a4 l hv hc
  have Cl' : mg_su C' l := b4 l hv (fun i j _ _ _ h => h)
  have s1 : mg_su C' C := b4 C a2 (fun i j hi h1 h2 h3 => a3 i j hi h1 h2 (hl j h3))
  have s2 : mg_su C C' := a4 C' b2 (fun i j hi h1 h2 h3 => b3 i j hi h1 h2 (hc i j hi (Cl' i h1) h2 h3))
  exact mg_eq (fun i => ⟨s1 i, s2 i⟩)
theorem mg_left2 {E : Nat → Nat} {f l v C : Nat} (sy : mg_sy E) (hE : ∀ a, a < 10 → E a < 1024) (hl : mg_su l f) (hc : mg_cls E f l) (h : mg_isc E f v C) : mg_su (mg_sd l C) f ∧ mg_cls E f (mg_sd l C) := by
  refine ⟨fun i q => hl i (mg_sd_i.1 q).1, ?_⟩
  intro i j hi h1 h2 h3
  obtain ⟨q1, q2⟩ := mg_sd_i.1 h1
  refine mg_sd_i.2 ⟨hc i j hi q1 h2 h3, ?_⟩
  cases q : C.testBit j with
  | false => rfl
  | true =>
    have j10 := mg_bit_lt (hE i hi) h2
    have := h.2.2.1 j i j10 q (by rw [sy j i j10 hi]; exact h2) (hl i q1)
    rw [this] at q2
    exact absurd q2 (by decide)
def mg_cx (C : Nat → Nat) : Nat → Nat → Nat → Nat
  | 0 => fun _ _ => 0
  | n + 1 => fun k l => if l.testBit k = true then mg_cx C n (k + 1) (mg_sd l (C k)) + 1 else mg_cx C n (k + 1) l
theorem mg_cx_t {C : Nat → Nat} {n k l : Nat} (h : l.testBit k = true) : mg_cx C (n + 1) k l = mg_cx C n (k + 1) (mg_sd l (C k)) + 1 := if_pos h
theorem mg_cx_f {C : Nat → Nat} {n k l : Nat} (h : ¬ l.testBit k = true) : mg_cx C (n + 1) k l = mg_cx C n (k + 1) l := if_neg h
theorem mg_cx_le {C : Nat → Nat} : ∀ n k l, mg_cx C n k l ≤ n := by
  intro n
  induction n with
  | zero => exact fun _ _ => Nat.le_refl 0
  | succ n ih =>
    intro k l
    by_cases h : l.testBit k = true
    · rw [mg_cx_t h]
      have := ih (k + 1) (mg_sd l (C k))
      omega
    · rw [mg_cx_f h]
      have := ih (k + 1) l
      omega
theorem mg_cx_0 {C : Nat → Nat} : ∀ n k, mg_cx C n k 0 = 0 := by
  intro n
  induction n with
  | zero => exact fun _ => rfl
  | succ n ih =>
    intro k
    rw [mg_cx_f (by rw [Nat.zero_testBit]; decide)]
    exact ih _
theorem mg_cx_s {C : Nat → Nat} {n l : Nat} : ∀ d k, (∀ j, j < k + d → l.testBit j = false) → mg_cx C (n + d) k l = mg_cx C n (k + d) l := by
  intro d
  induction d with
  | zero => exact fun k _ => rfl
  | succ d ih =>
    intro k h
    have e : mg_cx C (n + d + 1) k l = mg_cx C (n + d) (k + 1) l := mg_cx_f (by rw [h k (by omega)]; decide)
    rw [show n + (d + 1) = n + d + 1 from rfl, e, ih (k + 1) (fun j hj => h j (by omega)), show k + 1 + d = k + (d + 1) from by omega]
theorem mg_cx_y {C : Nat → Nat} {l k : Nat} (hl : l < 1024) (h0 : ¬ l = 0) (hk : k < 10) (hb : ∀ j, j < k → l.testBit j = false) (hC : (C (mg_lo l)).testBit (mg_lo l) = true) : mg_cx C (10 - k) k l = mg_cx C (10 - (k + 1)) (k + 1) (mg_sd l (C (mg_lo l))) + 1 := by
  obtain ⟨f1, f2⟩ := mg_lo_s h0 hl
  have f10 := mg_bit_lt hl f1
  generalize hf : mg_lo l = f at *
  have kf : k ≤ f := by
    rcases Nat.lt_or_ge f k with q | q
    · rw [hb f q] at f1
      exact absurd f1 (by decide)
    · exact q
  obtain ⟨d, hd⟩ : ∃ d, f = k + d := ⟨f - k, by omega⟩
  obtain ⟨n, hn⟩ : ∃ n, 10 = f + (n + 1) := ⟨9 - f, by omega⟩
  have e1 : 10 - k = (n + 1) + d := by omega
  have e2 : 10 - (k + 1) = n + d := by omega
  rw [e1, e2, mg_cx_s d k (fun j hj => f2 j (by omega)), mg_cx_s d (k + 1) ?_, ← hd, mg_cx_t f1, show k + 1 + d = f + 1 from by omega]
  intro j hj
  cases q : (mg_sd l (C f)).testBit j with
  | false => rfl
  | true =>
    obtain ⟨q1, q2⟩ := mg_sd_i.1 q
    rcases Nat.lt_or_ge j f with z | z
    · rw [f2 j z] at q1
      exact absurd q1 (by decide)
    · have : j = f := by omega
      rw [this, hC] at q2
      exact absurd q2 (by decide)
