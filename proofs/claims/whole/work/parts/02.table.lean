/-! The table of tasks: P period (0: no task), F first core, G second core (3: none), K cost of the first part, C cost, D deadline -/
def ed_up (f : Nat → Nat) (j v : Nat) : Nat → Nat := fun i => if i = j then v else f i
theorem ed_up_s {f : Nat → Nat} {j v : Nat} : ed_up f j v j = v := if_pos rfl
theorem ed_up_n {f : Nat → Nat} {j v i : Nat} (h : i ≠ j) : ed_up f j v i = f i := if_neg h
def tb_c (P F G K C : Nat → Nat) (k : Nat) : Nat → Nat :=
  fun i => if P i = 0 then 0 else if F i = k then K i else if G i = k then C i - K i else 0
def tb_d (F G K D : Nat → Nat) (k : Nat) : Nat → Nat :=
  fun i => if F i = k then (if G i = 3 then D i else K i) else D i - K i
/-- one task's row -/
def tb_row (m pp f g x c d : Nat) : Prop :=
  pp ≤ 60 ∧ 60 % pp = 0 ∧ f < m ∧ 0 < x ∧ d ≤ pp ∧ c ≤ d ∧ ((g < m ∧ g ≠ f ∧ x < c) ∨ (g = 3 ∧ x = c))
def tb_ok (m : Nat) (P F G K C D : Nat → Nat) : Prop :=
  (1 ≤ m ∧ m ≤ 3) ∧ (∀ i, 12 ≤ i → P i = 0) ∧ (∀ i, 0 < P i → tb_row m (P i) (F i) (G i) (K i) (C i) (D i)) ∧
  (∀ k, k < m → ed_ok (tb_c P F G K C k) (tb_d F G K D k) P 61)
theorem tb_c_pos {P F G K C : Nat → Nat} {k i : Nat} (h : 0 < tb_c P F G K C k i) : 0 < P i := by
  unfold tb_c at h
  rcases Nat.eq_zero_or_pos (P i) with z | z
  · rw [if_pos z] at h; exact absurd h (Nat.lt_irrefl 0)
  · exact z
/-- every part of a table is a part as the document has it -/
theorem tb_V {m : Nat} {P F G K C D : Nat → Nat} (T : tb_ok m P F G K C D) {k : Nat} (hk : k < m) :
    ed_V (tb_c P F G K C k) (tb_d F G K D k) P := by
  intro i _ h
  have hp := tb_c_pos h
  obtain ⟨r1, r2, r3, r4, r5, r6, r7⟩ := T.2.2.1 i hp
  have hm := T.1
  unfold tb_c at h ⊢
  unfold tb_d
  rw [if_neg (by omega)] at h ⊢
  by_cases z : F i = k
  · rw [if_pos z, if_pos z]
    by_cases y : G i = 3
    · rw [if_pos y]; exact ⟨by omega, by omega, r1, r2⟩
    · rw [if_neg y]; exact ⟨by omega, by omega, r1, r2⟩
  · rw [if_neg z] at h
    rw [if_neg z, if_neg z]
    by_cases y : G i = k
    · rw [if_pos y]; exact ⟨by omega, by omega, r1, r2⟩
    · rw [if_neg y] at h; exact absurd h (Nat.lt_irrefl 0)
theorem tb_Vup {c d p : Nat → Nat} (V : ed_V c d p) {j x dd pp : Nat} (h1 : x ≤ dd) (h2 : dd ≤ pp) (h3 : pp ≤ 60) (h4 : 60 % pp = 0) :
    ed_V (ed_up c j x) (ed_up d j dd) (ed_up p j pp) := by
  intro i hi h
  by_cases z : i = j
  · subst z
    rw [ed_up_s, ed_up_s, ed_up_s]; exact ⟨h1, h2, h3, h4⟩
  · rw [ed_up_n z] at h
    rw [ed_up_n z, ed_up_n z, ed_up_n z]; exact V i hi h
/-- a task more, in row j that was free: core f with its first part and core g with its second one don't miss -/
theorem tb_add {m : Nat} {P F G K C D : Nat → Nat} (T : tb_ok m P F G K C D) {j pp f g x c d : Nat} (hj : j < 12) (hP : P j = 0) (hp0 : 0 < pp)
    (R : tb_row m pp f g x c d)
    (Hf : ed_ok (ed_up (tb_c P F G K C f) j x) (ed_up (tb_d F G K D f) j (if g = 3 then d else x)) (ed_up P j pp) 61)
    (Hg : g < m → ed_ok (ed_up (tb_c P F G K C g) j (c - x)) (ed_up (tb_d F G K D g) j (d - x)) (ed_up P j pp) 61) :
    tb_ok m (ed_up P j pp) (ed_up F j f) (ed_up G j g) (ed_up K j x) (ed_up C j c) (ed_up D j d) := by
  obtain ⟨t1, t2, t3, t4⟩ := T
  have R' := R
  obtain ⟨r1, r2, r3, r4, r5, r6, r7⟩ := R'
  have same : ∀ k i, i ≠ j → tb_c (ed_up P j pp) (ed_up F j f) (ed_up G j g) (ed_up K j x) (ed_up C j c) k i = tb_c P F G K C k i
      ∧ tb_d (ed_up F j f) (ed_up G j g) (ed_up K j x) (ed_up D j d) k i = tb_d F G K D k i := by
    intro k i z
    unfold tb_c tb_d
    rw [ed_up_n z, ed_up_n z, ed_up_n z, ed_up_n z, ed_up_n z, ed_up_n z]
    exact ⟨rfl, rfl⟩
  refine ⟨t1, fun i hi => ?_, fun i hi => ?_, fun k hk => ?_⟩
  · rw [ed_up_n (by omega)]; exact t2 i hi
  · by_cases z : i = j
    · subst z
      rw [ed_up_s, ed_up_s, ed_up_s, ed_up_s, ed_up_s, ed_up_s]; exact R
    · rw [ed_up_n z] at hi
      rw [ed_up_n z, ed_up_n z, ed_up_n z, ed_up_n z, ed_up_n z, ed_up_n z]; exact t3 i hi
  · by_cases kf : k = f
    · subst kf
      refine ed_ok_mono (fun i hi h => ?_) Hf
      by_cases z : i = j
      · subst z
        unfold tb_c tb_d
        simp only [ed_up_s, if_neg (show ¬ pp = 0 by omega), if_true]
        exact ⟨trivial, trivial, trivial⟩
      · rw [ed_up_n z, ed_up_n z, (same k i z).1, (same k i z).2]; exact ⟨rfl, rfl, rfl⟩
    · by_cases kg : k = g
      · subst kg
        refine ed_ok_mono (fun i hi h => ?_) (Hg hk)
        by_cases z : i = j
        · subst z
          unfold tb_c tb_d
          simp only [ed_up_s, if_neg (show ¬ pp = 0 by omega), if_neg (show ¬ f = k by omega), if_true]
          exact ⟨trivial, trivial, trivial⟩
        · rw [ed_up_n z, ed_up_n z, (same k i z).1, (same k i z).2]; exact ⟨rfl, rfl, rfl⟩
      · refine ed_ok_mono (fun i hi h => ?_) (t4 k hk)
        by_cases z : i = j
        · subst z
          unfold tb_c at h
          simp only [ed_up_s, if_neg (show ¬ pp = 0 by omega), if_neg (show ¬ f = k by omega), if_neg (show ¬ g = k by omega)] at h
          exact absurd h (Nat.lt_irrefl 0)
        · rw [ed_up_n z, (same k i z).1, (same k i z).2]; exact ⟨rfl, rfl, rfl⟩
/-- a task less -/
theorem tb_rem {m : Nat} {P F G K C D : Nat → Nat} (T : tb_ok m P F G K C D) (j : Nat) : tb_ok m (ed_up P j 0) F G K C D := by
  obtain ⟨t1, t2, t3, t4⟩ := T
  refine ⟨t1, fun i hi => ?_, fun i hi => ?_, fun k hk => ?_⟩
  · by_cases z : i = j
    · subst z; exact ed_up_s
    · rw [ed_up_n z]; exact t2 i hi
  · by_cases z : i = j
    · subst z; rw [ed_up_s] at hi; exact absurd hi (Nat.lt_irrefl 0)
    · rw [ed_up_n z] at hi ⊢; exact t3 i hi
  · refine ed_ok_mono (fun i hi h => ?_) (t4 k hk)
    have hp := tb_c_pos h
    by_cases z : i = j
    · subst z; rw [ed_up_s] at hp; exact absurd hp (Nat.lt_irrefl 0)
    · unfold tb_c; rw [ed_up_n z]; exact ⟨rfl, rfl, rfl⟩
/-- an empty table -/
theorem tb_new {m : Nat} (h1 : 1 ≤ m) (h3 : m ≤ 3) (F G K C D : Nat → Nat) : tb_ok m (fun _ => 0) F G K C D := by
  refine ⟨⟨h1, h3⟩, fun _ _ => rfl, fun i h => absurd h (Nat.lt_irrefl 0), fun k hk t ht hb => ?_⟩
  obtain ⟨i, hi, hl, hd⟩ := hb
  have h := (ed_inv _ _ _ t i hl).2.1
  exact absurd h (Nat.lt_irrefl 0)
/-! how many tasks; the free id; the load -/
def tb_n (P : Nat → Nat) : Nat → Nat
  | 0 => 0
  | n + 1 => if P n = 0 then tb_n P n else tb_n P n + 1
theorem tb_n_le (P : Nat → Nat) : ∀ n, tb_n P n ≤ n := by
  intro n
  induction n with
  | zero => exact Nat.le_refl 0
  | succ n ih => unfold tb_n; split <;> omega
theorem tb_n_far {P : Nat → Nat} {j v : Nat} : ∀ {n : Nat}, n ≤ j → tb_n (ed_up P j v) n = tb_n P n := by
  intro n
  induction n with
  | zero => intro _; rfl
  | succ n ih =>
    intro h
    unfold tb_n
    rw [ed_up_n (by omega), ih (by omega)]
theorem tb_n_add {P : Nat → Nat} {j v : Nat} (hP : P j = 0) (hv : 0 < v) : ∀ {n : Nat}, j < n → tb_n (ed_up P j v) n = tb_n P n + 1 := by
  intro n
  induction n with
  | zero => intro h; exact absurd h (Nat.not_lt_zero j)
  | succ n ih =>
    intro h
    unfold tb_n
    by_cases z : n = j
    · subst z
      rw [ed_up_s, if_neg (by omega), if_pos hP, tb_n_far (Nat.le_refl n)]
    · rw [ed_up_n z, ih (by omega)]
      split <;> rfl
theorem tb_n_sub {P : Nat → Nat} {j : Nat} (hP : 0 < P j) : ∀ {n : Nat}, j < n → tb_n (ed_up P j 0) n + 1 = tb_n P n := by
  intro n
  induction n with
  | zero => intro h; exact absurd h (Nat.not_lt_zero j)
  | succ n ih =>
    intro h
    unfold tb_n
    by_cases z : n = j
    · subst z
      rw [ed_up_s, if_pos rfl, if_neg (by omega), tb_n_far (Nat.le_refl n)]
    · rw [ed_up_n z, ← ih (by omega)]
      split <;> rfl
theorem tb_n_full {P : Nat → Nat} : ∀ {n : Nat}, (∀ i, i < n → 0 < P i) → tb_n P n = n := by
  intro n
  induction n with
  | zero => intro _; rfl
  | succ n ih =>
    intro h
    unfold tb_n
    rw [if_neg (by have := h n (by omega); omega), ih (fun i hi => h i (by omega))]
def tb_fr (P : Nat → Nat) (j : Nat) : Prop := j ≤ 12 ∧ (∀ i, i < j → 0 < P i) ∧ (j < 12 → P j = 0)
theorem tb_fr_ex (P : Nat → Nat) : ∃ j, tb_fr P j := by
  obtain ⟨k, hk, hl⟩ := pk_least (fun k => 12 ≤ k ∨ P k = 0) ⟨12, Or.inl (Nat.le_refl 12)⟩
  have h12 : k ≤ 12 := by
    rcases Nat.lt_or_ge 12 k with h | h
    · exact absurd (Or.inl (Nat.le_refl 12)) (hl 12 h)
    · exact h
  refine ⟨k, h12, fun i hi => ?_, fun h => ?_⟩
  · have := hl i hi
    rcases Nat.eq_zero_or_pos (P i) with z | z
    · exact absurd (Or.inr z) this
    · exact z
  · rcases hk with g | g
    · omega
    · exact g
theorem tb_fr_lt {P : Nat → Nat} {j : Nat} (h : tb_fr P j) (hn : tb_n P 12 < 12) : j < 12 := by
  rcases Nat.lt_or_ge j 12 with g | g
  · exact g
  · have e : j = 12 := by have := h.1; omega
    subst e
    have := tb_n_full h.2.1
    omega
def tb_ld (P c : Nat → Nat) : Nat → Nat
  | 0 => 0
  | n + 1 => if P n = 0 then tb_ld P c n else tb_ld P c n + c n * (60 / P n)
/-- with a part tried out: core k, id j -/
def tb_T (P F G K C D : Nat → Nat) (j pp k x dd : Nat) : Prop :=
  ed_ok (ed_up (tb_c P F G K C k) j x) (ed_up (tb_d F G K D k) j dd) (ed_up P j pp) 61
