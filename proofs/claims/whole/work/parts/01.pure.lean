/-! A core in slots, over naturals: costs c, deadlines d, periods p by id (c i = 0: no part) -/
def ed_L1 (c p L : Nat → Nat) (t : Nat) : Nat → Nat :=
  fun i => if 0 < c i ∧ 0 < p i ∧ t % p i = 0 then c i else L i
def ed_D1 (c d p D : Nat → Nat) (t : Nat) : Nat → Nat :=
  fun i => if 0 < c i ∧ 0 < p i ∧ t % p i = 0 then t + d i else D i
/-- the most urgent job of the ids below n -/
def ed_pk (L D : Nat → Nat) : Nat → Option Nat
  | 0 => none
  | n + 1 =>
    match ed_pk L D n with
    | none => if 0 < L n then some n else none
    | some b => if 0 < L n ∧ D n < D b then some n else some b
def ed_L2 (L : Nat → Nat) (b : Option Nat) : Nat → Nat :=
  fun i => if b = some i then L i - 1 else L i
def ed_R2 (d L D R : Nat → Nat) (t : Nat) (b : Option Nat) : Nat → Nat :=
  fun i => if b = some i ∧ L i = 1 ∧ R i < t + 1 - (D i - d i) then t + 1 - (D i - d i) else R i
/-- what is left, due, and the longest response, at the beginning of slot t, ahead of the releases -/
def ed_S (c d p : Nat → Nat) : Nat → (Nat → Nat) × (Nat → Nat) × (Nat → Nat)
  | 0 => (fun _ => 0, fun _ => 0, fun _ => 0)
  | t + 1 =>
    (ed_L2 (ed_L1 c p (ed_S c d p t).1 t) (ed_pk (ed_L1 c p (ed_S c d p t).1 t) (ed_D1 c d p (ed_S c d p t).2.1 t) 13),
     ed_D1 c d p (ed_S c d p t).2.1 t,
     ed_R2 d (ed_L1 c p (ed_S c d p t).1 t) (ed_D1 c d p (ed_S c d p t).2.1 t) (ed_S c d p t).2.2 t
       (ed_pk (ed_L1 c p (ed_S c d p t).1 t) (ed_D1 c d p (ed_S c d p t).2.1 t) 13))
def ed_LL (c d p : Nat → Nat) (t : Nat) : Nat → Nat := (ed_S c d p t).1
def ed_DD (c d p : Nat → Nat) (t : Nat) : Nat → Nat := (ed_S c d p t).2.1
def ed_RR (c d p : Nat → Nat) (t : Nat) : Nat → Nat := (ed_S c d p t).2.2
def ed_LA (c d p : Nat → Nat) (t : Nat) : Nat → Nat := ed_L1 c p (ed_LL c d p t) t
def ed_DA (c d p : Nat → Nat) (t : Nat) : Nat → Nat := ed_D1 c d p (ed_DD c d p t) t
def ed_B (c d p : Nat → Nat) (t : Nat) : Option Nat := ed_pk (ed_LA c d p t) (ed_DA c d p t) 13
theorem ed_LL_s (c d p : Nat → Nat) (t : Nat) : ed_LL c d p (t + 1) = ed_L2 (ed_LA c d p t) (ed_B c d p t) := by
  unfold ed_B ed_LA ed_DA ed_LL ed_DD
  rw [ed_S]
theorem ed_DD_s (c d p : Nat → Nat) (t : Nat) : ed_DD c d p (t + 1) = ed_DA c d p t := by
  unfold ed_DA ed_DD
  rw [ed_S]
theorem ed_RR_s (c d p : Nat → Nat) (t : Nat) : ed_RR c d p (t + 1) = ed_R2 d (ed_LA c d p t) (ed_DA c d p t) (ed_RR c d p t) t (ed_B c d p t) := by
  unfold ed_B ed_LA ed_DA ed_RR ed_LL ed_DD
  rw [ed_S]
theorem ed_LL_0 (c d p : Nat → Nat) (i : Nat) : ed_LL c d p 0 i = 0 := rfl
theorem ed_RR_0 (c d p : Nat → Nat) (i : Nat) : ed_RR c d p 0 i = 0 := rfl
def ed_bad (L D : Nat → Nat) (t : Nat) : Prop := ∃ i, i < 13 ∧ 0 < L i ∧ D i ≤ t
/-- no job is overdue at the beginning of a slot below n; a core doesn't miss: ed_ok .. 61 -/
def ed_ok (c d p : Nat → Nat) (n : Nat) : Prop := ∀ t, t < n → ¬ ed_bad (ed_LL c d p t) (ed_DD c d p t) t
def ed_V (c d p : Nat → Nat) : Prop := ∀ i, i < 13 → 0 < c i → c i ≤ d i ∧ d i ≤ p i ∧ p i ≤ 60 ∧ 60 % p i = 0
/-! the pick -/
theorem ed_pk_none {L D : Nat → Nat} : ∀ {n : Nat}, ed_pk L D n = none → ∀ i, i < n → L i = 0 := by
  intro n
  induction n with
  | zero => intro _ i hi; exact absurd hi (Nat.not_lt_zero i)
  | succ n ih =>
    intro h i hi
    cases e : ed_pk L D n with
    | none =>
      simp only [ed_pk, e] at h
      by_cases z : 0 < L n
      · rw [if_pos z] at h; cases h
      · rcases Nat.lt_or_ge i n with h1 | h1
        · exact ih e i h1
        · have hn : i = n := by omega
          rw [hn]; omega
    | some b =>
      simp only [ed_pk, e] at h
      by_cases z : 0 < L n ∧ D n < D b
      · rw [if_pos z] at h; cases h
      · rw [if_neg z] at h; cases h
theorem ed_pk_some {L D : Nat → Nat} : ∀ {n b : Nat}, ed_pk L D n = some b →
    b < n ∧ 0 < L b ∧ (∀ i, i < n → 0 < L i → D b ≤ D i) ∧ (∀ i, i < b → 0 < L i → D b < D i) := by
  intro n
  induction n with
  | zero => intro b h; cases h
  | succ n ih =>
    intro b h
    cases e : ed_pk L D n with
    | none =>
      simp only [ed_pk, e] at h
      by_cases z : 0 < L n
      · rw [if_pos z] at h
        cases h
        refine ⟨by omega, z, fun i hi hl => ?_, fun i hi hl => ?_⟩
        · rcases Nat.lt_or_ge i n with h1 | h1
          · have := ed_pk_none e i h1; omega
          · have hn : i = n := by omega
            rw [hn]; exact Nat.le_refl _
        · have := ed_pk_none e i hi; omega
      · rw [if_neg z] at h; cases h
    | some a =>
      obtain ⟨h1, h2, h3, h4⟩ := ih e
      simp only [ed_pk, e] at h
      by_cases z : 0 < L n ∧ D n < D a
      · rw [if_pos z] at h
        cases h
        refine ⟨by omega, z.1, fun i hi hl => ?_, fun i hi hl => ?_⟩
        · rcases Nat.lt_or_ge i n with g | g
          · have := h3 i g hl; omega
          · have hn : i = n := by omega
            rw [hn]; exact Nat.le_refl _
        · have := h3 i hi hl; omega
      · rw [if_neg z] at h
        cases h
        refine ⟨by omega, h2, fun i hi hl => ?_, h4⟩
        rcases Nat.lt_or_ge i n with g | g
        · exact h3 i g hl
        · have hn : i = n := by omega
          subst hn
          omega
theorem ed_pk_uniq {L D : Nat → Nat} {n b : Nat} (hb : b < n) (hL : 0 < L b) (h1 : ∀ i, i < n → 0 < L i → D b ≤ D i)
    (h2 : ∀ i, i < b → 0 < L i → D b < D i) : ed_pk L D n = some b := by
  cases e : ed_pk L D n with
  | none => have := ed_pk_none e b hb; omega
  | some a =>
    obtain ⟨ha, hLa, a1, a2⟩ := ed_pk_some e
    have g1 := h1 a ha hLa
    have g2 := a1 b hb hL
    rcases Nat.lt_trichotomy a b with h | h | h
    · have := h2 a h hLa; omega
    · rw [h]
    · have := a2 b h hL; omega
/-! the invariant: a job that is left was released in the last p slots -/
theorem ed_modk {r p k : Nat} (hr : r % p = 0) (h0 : 0 < k) (hk : k < p) : (r + k) % p ≠ 0 := by
  rw [Nat.add_mod, hr, Nat.zero_add, Nat.mod_mod, Nat.mod_eq_of_lt hk]
  omega
theorem ed_invA {c d p : Nat → Nat} {t i : Nat}
    (H : 0 < ed_LL c d p t i → ed_LL c d p t i ≤ c i ∧ 0 < p i ∧ ∃ r, r % p i = 0 ∧ r < t ∧ t ≤ r + p i ∧ ed_DD c d p t i = r + d i)
    (h : 0 < ed_LA c d p t i) :
    ed_LA c d p t i ≤ c i ∧ 0 < p i ∧ ∃ r, r % p i = 0 ∧ r ≤ t ∧ t < r + p i ∧ ed_DA c d p t i = r + d i := by
  unfold ed_LA ed_L1 at h ⊢
  unfold ed_DA ed_D1
  by_cases z : 0 < c i ∧ 0 < p i ∧ t % p i = 0
  · rw [if_pos z, if_pos z]
    exact ⟨Nat.le_refl _, z.2.1, t, z.2.2, Nat.le_refl _, by omega, rfl⟩
  · rw [if_neg z] at h
    rw [if_neg z, if_neg z]
    obtain ⟨h1, h2, r, h3, h4, h5, h6⟩ := H h
    refine ⟨h1, h2, r, h3, by omega, ?_, h6⟩
    rcases Nat.lt_or_ge t (r + p i) with g | g
    · exact g
    · have e : t = r + p i := by omega
      exact absurd ⟨by omega, h2, by rw [e, Nat.add_mod_right]; exact h3⟩ z
theorem ed_inv (c d p : Nat → Nat) : ∀ t i : Nat, 0 < ed_LL c d p t i →
    ed_LL c d p t i ≤ c i ∧ 0 < p i ∧ ∃ r, r % p i = 0 ∧ r < t ∧ t ≤ r + p i ∧ ed_DD c d p t i = r + d i := by
  intro t
  induction t with
  | zero => intro i h; exact absurd h (Nat.lt_irrefl 0)
  | succ t ih =>
    intro i h
    rw [ed_LL_s] at h ⊢
    rw [ed_DD_s]
    have hle : ed_L2 (ed_LA c d p t) (ed_B c d p t) i ≤ ed_LA c d p t i := by
      unfold ed_L2; split <;> omega
    obtain ⟨h1, h2, r, h3, h4, h5, h6⟩ := ed_invA (ih i) (by omega)
    exact ⟨by omega, h2, r, h3, by omega, by omega, h6⟩
theorem ed_invB (c d p : Nat → Nat) (t i : Nat) (h : 0 < ed_LA c d p t i) :
    ed_LA c d p t i ≤ c i ∧ 0 < p i ∧ ∃ r, r % p i = 0 ∧ r ≤ t ∧ t < r + p i ∧ ed_DA c d p t i = r + d i :=
  ed_invA (ed_inv c d p t i) h
theorem ed_RR_le (c d p : Nat → Nat) : ∀ t i : Nat, ed_RR c d p t i ≤ t := by
  intro t
  induction t with
  | zero => intro i; exact Nat.le_refl 0
  | succ t ih =>
    intro i
    have := ih i
    rw [ed_RR_s]
    unfold ed_R2
    split <;> omega
/-! at a release, and in slot 60, a job that is left is overdue; a fresh job isn't -/
theorem ed_due {c d p : Nat → Nat} (V : ed_V c d p) {t i : Nat} (hi : i < 13) (hl : 0 < ed_LL c d p t i) (hm : t % p i = 0) :
    ed_DD c d p t i ≤ t := by
  obtain ⟨h1, h2, r, h3, h4, h5, h6⟩ := ed_inv c d p t i hl
  obtain ⟨v1, v2, v3, v4⟩ := V i hi (by omega)
  rw [h6]
  rcases Nat.lt_or_ge t (r + p i) with g | g
  · exact absurd (by rw [show r + (t - r) = t from by omega]; exact hm) (ed_modk h3 (k := t - r) (by omega) (by omega))
  · omega
theorem ed_due60 {c d p : Nat → Nat} (V : ed_V c d p) {i : Nat} (hi : i < 13) (hl : 0 < ed_LL c d p 60 i) :
    ed_DD c d p 60 i ≤ 60 :=
  ed_due V hi hl (V i hi (by have := (ed_inv c d p 60 i hl).1; omega)).2.2.2
theorem ed_old {c d p : Nat → Nat} (V : ed_V c d p) {t i : Nat} (hi : i < 13) (hl : 0 < ed_LA c d p t i) (hd : ed_DA c d p t i ≤ t) :
    0 < ed_LL c d p t i ∧ ed_DD c d p t i ≤ t := by
  unfold ed_LA ed_L1 at hl
  unfold ed_DA ed_D1 at hd
  by_cases z : 0 < c i ∧ 0 < p i ∧ t % p i = 0
  · rw [if_pos z] at hd
    have := (V i hi z.1).1
    omega
  · rw [if_neg z] at hl hd
    exact ⟨hl, hd⟩
/-! fewer parts: nothing is later (each job keeps its place in the order) -/
theorem ed_mono {c d p c' d' p' : Nat → Nat} (H : ∀ i, i < 13 → 0 < c' i → c i = c' i ∧ d i = d' i ∧ p i = p' i) :
    ∀ t i, i < 13 → ed_LL c' d' p' t i ≤ ed_LL c d p t i ∧ (0 < ed_LL c' d' p' t i → ed_DD c' d' p' t i = ed_DD c d p t i) := by
  intro t
  induction t with
  | zero => intro i _; exact ⟨Nat.le_refl _, fun h => absurd h (Nat.lt_irrefl 0)⟩
  | succ t ih =>
    have A : ∀ i, i < 13 → ed_LA c' d' p' t i ≤ ed_LA c d p t i ∧ (0 < ed_LA c' d' p' t i → ed_DA c' d' p' t i = ed_DA c d p t i) := by
      intro i hi
      obtain ⟨g1, g2⟩ := ih i hi
      by_cases hc : 0 < c' i
      · obtain ⟨e1, e2, e3⟩ := H i hi hc
        unfold ed_LA ed_L1 ed_DA ed_D1
        rw [e1, e2, e3]
        by_cases z : 0 < c' i ∧ 0 < p' i ∧ t % p' i = 0
        · rw [if_pos z, if_pos z, if_pos z, if_pos z]; exact ⟨Nat.le_refl _, fun _ => rfl⟩
        · rw [if_neg z, if_neg z, if_neg z, if_neg z]; exact ⟨g1, g2⟩
      · have h0 : ed_LA c' d' p' t i = 0 := by
          rcases Nat.eq_zero_or_pos (ed_LA c' d' p' t i) with h | h
          · exact h
          · have := (ed_invB c' d' p' t i h).1; omega
        rw [h0]
        exact ⟨Nat.zero_le _, fun h => absurd h (Nat.lt_irrefl 0)⟩
    intro i hi
    rw [ed_LL_s, ed_LL_s, ed_DD_s, ed_DD_s]
    have hle : ed_L2 (ed_LA c' d' p' t) (ed_B c' d' p' t) i ≤ ed_LA c' d' p' t i := by
      unfold ed_L2; split <;> omega
    obtain ⟨a1, a2⟩ := A i hi
    refine ⟨?_, fun h => a2 (by omega)⟩
    by_cases hb : ed_B c d p t = some i
    · have e1 : ed_L2 (ed_LA c d p t) (ed_B c d p t) i = ed_LA c d p t i - 1 := if_pos hb
      rw [e1]
      obtain ⟨b1, b2, b3, b4⟩ := ed_pk_some hb
      rcases Nat.lt_or_ge (ed_LA c' d' p' t i) (ed_LA c d p t i) with g | g
      · omega
      · have hp : 0 < ed_LA c' d' p' t i := by omega
        have hb' : ed_B c' d' p' t = some i := by
          refine ed_pk_uniq hi hp (fun k hk hl => ?_) (fun k hk hl => ?_)
          · obtain ⟨k1, k2⟩ := A k hk
            rw [a2 hp, k2 hl]; exact b3 k hk (by omega)
          · obtain ⟨k1, k2⟩ := A k (by omega)
            rw [a2 hp, k2 hl]; exact b4 k hk (by omega)
        have e2 : ed_L2 (ed_LA c' d' p' t) (ed_B c' d' p' t) i = ed_LA c' d' p' t i - 1 := if_pos hb'
        omega
    · have e1 : ed_L2 (ed_LA c d p t) (ed_B c d p t) i = ed_LA c d p t i := if_neg hb
      omega
theorem ed_ok_mono {c d p c' d' p' : Nat → Nat} (H : ∀ i, i < 13 → 0 < c' i → c i = c' i ∧ d i = d' i ∧ p i = p' i) {n : Nat}
    (h : ed_ok c d p n) : ed_ok c' d' p' n := by
  intro t ht hb
  obtain ⟨i, hi, hl, hd⟩ := hb
  obtain ⟨m1, m2⟩ := ed_mono H t i hi
  exact h t ht ⟨i, hi, by omega, by rw [← m2 hl]; exact hd⟩
