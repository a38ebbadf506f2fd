section
/-! rows pasted from kit/rows -/
theorem pk_us {f : Nat → Int32} {k : Nat} {x : Int32} : upd f k x k = x := if_pos rfl
theorem pk_un {f : Nat → Int32} {k j : Nat} {x : Int32} (h : j ≠ k) : upd f k x j = f j := if_neg h
theorem pk_sub {a b : Nat} (h : b ≤ a) : nI a - nI b = nI (a - b) := by
  obtain ⟨c, rfl⟩ : ∃ c, a = c + b := ⟨a - b, by omega⟩
  rw [← nI_add, Int32.add_sub_cancel, Nat.add_sub_cancel]
theorem pk_m1 (n : Nat) : nI (n + 1) + (-1) = nI n := by
  rw [← nI_1, Int32.add_assoc, show (1 : Int32) + (-1) = 0 from rfl, Int32.add_zero]
theorem pk_mul (a b : Nat) : nI a * nI b = nI (a * b) := (Int32.ofNat_mul a b).symm
theorem pk_div {a d : Nat} (ha : a < 2 ^ 31) (h0 : 0 < d) (hd : d < 2 ^ 31) : nI a / nI d = nI (a / d) := by
  apply Int32.toInt_inj.mp
  rw [lg_idiv_nonneg (by rw [nI_toInt ha]; omega) (by rw [nI_toInt hd]; omega), nI_toInt ha, nI_toInt hd, nI_toInt (Nat.lt_of_le_of_lt (Nat.div_le_self a d) ha)]
  first | rfl | exact (Int.natCast_ediv _ _).symm
theorem pk_rem {a d : Nat} (ha : a < 2 ^ 31) (h0 : 0 < d) (hd : d < 2 ^ 31) : nI a - nI a / nI d * nI d = nI (a % d) := by
  rw [pk_div ha h0 hd, pk_mul, pk_sub (Nat.div_mul_le_self a d)]
  exact congrArg nI (by have := Nat.div_add_mod' a d; omega)
theorem pk_sub_toInt {a b : Nat} (ha : a < 2 ^ 30) (hb : b < 2 ^ 30) : (nI a - nI b).toInt = (a : Int) - b := by
  rw [Int32.toInt_sub, nI_toInt (by omega), nI_toInt (by omega)]
  exact Int.bmod_eq_of_le (by omega) (by omega)
theorem pk_sneg {a b : Nat} (hb : b < 2 ^ 30) (h : a < b) : nI a - nI b < 0 := by
  rw [Int32.lt_iff_toInt_lt, pk_sub_toInt (by omega) hb, show (0 : Int32).toInt = 0 from by decide]
  omega
theorem pk_ix (x : Int32) {n : Nat} (hn : n < 2 ^ 31) : x < 0 ∨ nI n ≤ x ∨ ∃ j : Nat, j < n ∧ x = nI j := by
  by_cases h : x < 0
  · exact Or.inl h
  · obtain ⟨j, hj, rfl⟩ := nI_of h
    by_cases h2 : j < n
    · exact Or.inr (Or.inr ⟨j, h2, rfl⟩)
    · exact Or.inr (Or.inl (nI_le (by omega) hj))
theorem pk_le {x y : Int32} {A B : Prop} (a b : Nat) (f : a ≤ b → A) (g : b < a → B) (hx : x = nI a := by rfl) (hy : y = nI b := by rfl) (ha : a < 2 ^ 31 := by omega) (hb : b < 2 ^ 31 := by omega) : (x ≤ y → A) ∧ (¬ x ≤ y → B) := by
  subst hx hy
  rw [nI_leI ha hb]
  exact ⟨f, fun z => g (by omega)⟩
theorem pk_lt {x y : Int32} {A B : Prop} (a b : Nat) (f : a < b → A) (g : b ≤ a → B) (hx : x = nI a := by rfl) (hy : y = nI b := by rfl) (ha : a < 2 ^ 31 := by omega) (hb : b < 2 ^ 31 := by omega) : (x < y → A) ∧ (¬ x < y → B) := by
  subst hx hy
  rw [nI_ltI ha hb]
  exact ⟨f, fun z => g (by omega)⟩
theorem pk_eq {x y : Int32} {A B : Prop} (a b : Nat) (f : a = b → A) (g : a ≠ b → B) (hx : x = nI a := by rfl) (hy : y = nI b := by rfl) (ha : a < 2 ^ 31 := by omega) (hb : b < 2 ^ 31 := by omega) : (x = y → A) ∧ (¬ x = y → B) := by
  subst hx hy
  rw [nI_eq ha hb]
  exact ⟨f, g⟩
theorem pk_in {x : Int32} (n N : Nat) (h : n < N) (hx : x = nI n := by rfl) (hN : N < 2 ^ 31 := by omega) : vp_in x N := by
  subst hx
  exact vp_in_nI h hN
theorem pk_cl {x : Int32} (n : Nat) (hx : x = nI n := by rfl) (h : n < 2 ^ 31 := by omega) : x.toNatClampNeg = n := by
  subst hx
  exact nI_clamp h
theorem pk_loop {σ : Type} (W : Nat → Nat → σ → Prop) (I : Nat → σ → Prop) (e i0 : Nat) (s : σ) (hi : i0 ≤ e) (h0 : I i0 s) (hx : ∀ n s, I e s → W (n + 1) e s)
    (hs : ∀ n i s, i < e → I i s → (∀ s', I (i + 1) s' → W n (i + 1) s') → W (n + 1) i s) : ∃ n, W n i0 s :=
  ⟨e + 1, loop_i W I e hx hs (e + 1) i0 s hi (by omega) h0⟩
theorem pk_loopD {σ : Type} (W : Nat → Nat → σ → Prop) (I : Nat → σ → Prop) (hx : ∀ n s, I 0 s → W (n + 1) 0 s)
    (hs : ∀ n i s, I (i + 1) s → (∀ s', I i s' → W n i s') → W (n + 1) (i + 1) s) : ∀ (e : Nat) (s : σ), I e s → W (e + 1) e s := by
  intro e
  induction e with
  | zero => exact fun s h => hx 0 s h
  | succ e ih => exact fun s h => hs (e + 1) e s h (fun s' h' => ih s' h')
theorem pk_least (P : Nat → Prop) (h : ∃ k, P k) : ∃ k, P k ∧ ∀ j, j < k → ¬ P j := by
  obtain ⟨k, hk⟩ := h
  induction k using Nat.strongRecOn with
  | ind k ih =>
    by_cases e : ∃ j, j < k ∧ P j
    · obtain ⟨j, hj, pj⟩ := e
      exact ih j hj pj
    · exact ⟨k, hk, fun j hj pj => e ⟨j, hj, pj⟩⟩
end
section
/-! A core in slots, over naturals: costs c, deadlines d, periods p by id (c i = 0: no part) -/
def ed_L1 (c p L : Nat → Nat) (t : Nat) : Nat → Nat :=
  fun i => if 0 < c i ∧ 0 < p i ∧ t % p i = 0 then c i else L i
def ed_D1 (c d p D : Nat → Nat) (t : Nat) : Nat → Nat :=
  fun i => if 0 < c i ∧ 0 < p i ∧ t % p i = 0 then t + d i else D i
/-- the most urgent job of the ids below n -/
def ed_pk (L D : Nat → Nat) : Nat → Option Nat
  | 0 => none
  | n + 1 =>
    match ed_pk L D n with
    | none => if 0 < L n then some n else none
    | some b => if 0 < L n ∧ D n < D b then some n else some b
def ed_L2 (L : Nat → Nat) (b : Option Nat) : Nat → Nat :=
  fun i => if b = some i then L i - 1 else L i
def ed_R2 (d L D R : Nat → Nat) (t : Nat) (b : Option Nat) : Nat → Nat :=
  fun i => if b = some i ∧ L i = 1 ∧ R i < t + 1 - (D i - d i) then t + 1 - (D i - d i) else R i
/-- what is left, due, and the longest response, at the beginning of slot t, ahead of the releases -/
def ed_S (c d p : Nat → Nat) : Nat → (Nat → Nat) × (Nat → Nat) × (Nat → Nat)
  | 0 => (fun _ => 0, fun _ => 0, fun _ => 0)
  | t + 1 =>
    (ed_L2 (ed_L1 c p (ed_S c d p t).1 t) (ed_pk (ed_L1 c p (ed_S c d p t).1 t) (ed_D1 c d p (ed_S c d p t).2.1 t) 13),
     ed_D1 c d p (ed_S c d p t).2.1 t,
     ed_R2 d (ed_L1 c p (ed_S c d p t).1 t) (ed_D1 c d p (ed_S c d p t).2.1 t) (ed_S c d p t).2.2 t
       (ed_pk (ed_L1 c p (ed_S c d p t).1 t) (ed_D1 c d p (ed_S c d p t).2.1 t) 13))
def ed_LL (c d p : Nat → Nat) (t : Nat) : Nat → Nat := (ed_S c d p t).1
def ed_DD (c d p : Nat → Nat) (t : Nat) : Nat → Nat := (ed_S c d p t).2.1
def ed_RR (c d p : Nat → Nat) (t : Nat) : Nat → Nat := (ed_S c d p t).2.2
def ed_LA (c d p : Nat → Nat) (t : Nat) : Nat → Nat := ed_L1 c p (ed_LL c d p t) t
def ed_DA (c d p : Nat → Nat) (t : Nat) : Nat → Nat := ed_D1 c d p (ed_DD c d p t) t
def ed_B (c d p : Nat → Nat) (t : Nat) : Option Nat := ed_pk (ed_LA c d p t) (ed_DA c d p t) 13
theorem ed_LL_s (c d p : Nat → Nat) (t : Nat) : ed_LL c d p (t + 1) = ed_L2 (ed_LA c d p t) (ed_B c d p t) := by
  unfold ed_B ed_LA ed_DA ed_LL ed_DD
  rw [ed_S]
theorem ed_DD_s (c d p : Nat → Nat) (t : Nat) : ed_DD c d p (t + 1) = ed_DA c d p t := by
  unfold ed_DA ed_DD
  rw [ed_S]
theorem ed_RR_s (c d p : Nat → Nat) (t : Nat) : ed_RR c d p (t + 1) = ed_R2 d (ed_LA c d p t) (ed_DA c d p t) (ed_RR c d p t) t (ed_B c d p t) := by
  unfold ed_B ed_LA ed_DA ed_RR ed_LL ed_DD
  rw [ed_S]
theorem ed_LL_0 (c d p : Nat → Nat) (i : Nat) : ed_LL c d p 0 i = 0 := rfl
theorem ed_RR_0 (c d p : Nat → Nat) (i : Nat) : ed_RR c d p 0 i = 0 := rfl
def ed_bad (L D : Nat → Nat) (t : Nat) : Prop := ∃ i, i < 13 ∧ 0 < L i ∧ D i ≤ t
/-- no job is overdue at the beginning of a slot below n; a core doesn't miss: ed_ok .. 61 -/
def ed_ok (c d p : Nat → Nat) (n : Nat) : Prop := ∀ t, t < n → ¬ ed_bad (ed_LL c d p t) (ed_DD c d p t) t
def ed_V (c d p : Nat → Nat) : Prop := ∀ i, i < 13 → 0 < c i → c i ≤ d i ∧ d i ≤ p i ∧ p i ≤ 60 ∧ 60 % p i = 0
/-! the pick -/
theorem ed_pk_none {L D : Nat → Nat} : ∀ {n : Nat}, ed_pk L D n = none → ∀ i, i < n → L i = 0 := by
  intro n
  induction n with
  | zero => intro _ i hi; exact absurd hi (Nat.not_lt_zero i)
  | succ n ih =>
    intro h i hi
    cases e : ed_pk L D n with
    | none =>
      simp only [ed_pk, e] at h
      by_cases z : 0 < L n
      · rw [if_pos z] at h; cases h
      · rcases Nat.lt_or_ge i n with h1 | h1
        · exact ih e i h1
        · have hn : i = n := by omega
          rw [hn]; omega
    | some b =>
      simp only [ed_pk, e] at h
      by_cases z : 0 < L n ∧ D n < D b
      · rw [if_pos z] at h; cases h
      · rw [if_neg z] at h; cases h
theorem ed_pk_some {L D : Nat → Nat} : ∀ {n b : Nat}, ed_pk L D n = some b →
    b < n ∧ 0 < L b ∧ (∀ i, i < n → 0 < L i → D b ≤ D i) ∧ (∀ i, i < b → 0 < L i → D b < D i) := by
  intro n
  induction n with
  | zero => intro b h; cases h
  | succ n ih =>
    intro b h
    cases e : ed_pk L D n with
    | none =>
      simp only [ed_pk, e] at h
      by_cases z : 0 < L n
      · rw [if_pos z] at h
        cases h
        refine ⟨by omega, z, fun i hi hl => ?_, fun i hi hl => ?_⟩
        · rcases Nat.lt_or_ge i n with h1 | h1
          · have := ed_pk_none e i h1; omega
          · have hn : i = n := by omega
            rw [hn]; exact Nat.le_refl _
        · have := ed_pk_none e i hi; omega
      · rw [if_neg z] at h; cases h
    | some a =>
      obtain ⟨h1, h2, h3, h4⟩ := ih e
      simp only [ed_pk, e] at h
      by_cases z : 0 < L n ∧ D n < D a
      · rw [if_pos z] at h
        cases h
        refine ⟨by omega, z.1, fun i hi hl => ?_, fun i hi hl => ?_⟩
        · rcases Nat.lt_or_ge i n with g | g
          · have := h3 i g hl; omega
          · have hn : i = n := by omega
            rw [hn]; exact Nat.le_refl _
        · have := h3 i hi hl; omega
      · rw [if_neg z] at h
        cases h
        refine ⟨by omega, h2, fun i hi hl => ?_, h4⟩
        rcases Nat.lt_or_ge i n with g | g
        · exact h3 i g hl
        · have hn : i = n := by omega
          subst hn
          omega
theorem ed_pk_uniq {L D : Nat → Nat} {n b : Nat} (hb : b < n) (hL : 0 < L b) (h1 : ∀ i, i < n → 0 < L i → D b ≤ D i)
    (h2 : ∀ i, i < b → 0 < L i → D b < D i) : ed_pk L D n = some b := by
  cases e : ed_pk L D n with
  | none => have := ed_pk_none e b hb; omega
  | some a =>
    obtain ⟨ha, hLa, a1, a2⟩ := ed_pk_some e
    have g1 := h1 a ha hLa
    have g2 := a1 b hb hL
    rcases Nat.lt_trichotomy a b with h | h | h
    · have := h2 a h hLa; omega
    · rw [h]
    · have := a2 b h hL; omega
/-! the invariant: a job that is left was released in the last p slots -/
theorem ed_modk {r p k : Nat} (hr : r % p = 0) (h0 : 0 < k) (hk : k < p) : (r + k) % p ≠ 0 := by
  rw [Nat.add_mod, hr, Nat.zero_add, Nat.mod_mod, Nat.mod_eq_of_lt hk]
  omega
theorem ed_invA {c d p : Nat → Nat} {t i : Nat}
    (H : 0 < ed_LL c d p t i → ed_LL c d p t i ≤ c i ∧ 0 < p i ∧ ∃ r, r % p i = 0 ∧ r < t ∧ t ≤ r + p i ∧ ed_DD c d p t i = r + d i)
    (h : 0 < ed_LA c d p t i) :
    ed_LA c d p t i ≤ c i ∧ 0 < p i ∧ ∃ r, r % p i = 0 ∧ r ≤ t ∧ t < r + p i ∧ ed_DA c d p t i = r + d i := by
  unfold ed_LA ed_L1 at h ⊢
  unfold ed_DA ed_D1
  by_cases z : 0 < c i ∧ 0 < p i ∧ t % p i = 0
  · rw [if_pos z, if_pos z]
    exact ⟨Nat.le_refl _, z.2.1, t, z.2.2, Nat.le_refl _, by omega, rfl⟩
  · rw [if_neg z] at h
    rw [if_neg z, if_neg z]
    obtain ⟨h1, h2, r, h3, h4, h5, h6⟩ := H h
    refine ⟨h1, h2, r, h3, by omega, ?_, h6⟩
    rcases Nat.lt_or_ge t (r + p i) with g | g
    · exact g
    · have e : t = r + p i := by omega
      exact absurd ⟨by omega, h2, by rw [e, Nat.add_mod_right]; exact h3⟩ z
theorem ed_inv (c d p : Nat → Nat) : ∀ t i : Nat, 0 < ed_LL c d p t i →
    ed_LL c d p t i ≤ c i ∧ 0 < p i ∧ ∃ r, r % p i = 0 ∧ r < t ∧ t ≤ r + p i ∧ ed_DD c d p t i = r + d i := by
  intro t
  induction t with
  | zero => intro i h; exact absurd h (Nat.lt_irrefl 0)
  | succ t ih =>
    intro i h
    rw [ed_LL_s] at h ⊢
    rw [ed_DD_s]
    have hle : ed_L2 (ed_LA c d p t) (ed_B c d p t) i ≤ ed_LA c d p t i := by
      unfold ed_L2; split <;> omega
    obtain ⟨h1, h2, r, h3, h4, h5, h6⟩ := ed_invA (ih i) (by omega)
    exact ⟨by omega, h2, r, h3, by omega, by omega, h6⟩
theorem ed_invB (c d p : Nat → Nat) (t i : Nat) (h : 0 < ed_LA c d p t i) :
    ed_LA c d p t i ≤ c i ∧ 0 < p i ∧ ∃ r, r % p i = 0 ∧ r ≤ t ∧ t < r + p i ∧ ed_DA c d p t i = r + d i :=
  ed_invA (ed_inv c d p t i) h
theorem ed_RR_le (c d p : Nat → Nat) : ∀ t i : Nat, ed_RR c d p t i ≤ t := by
  intro t
  induction t with
  | zero => intro i; exact Nat.le_refl 0
  | succ t ih =>
    intro i
    have := ih i
    rw [ed_RR_s]
    unfold ed_R2
    split <;> omega
/-! at a release, and in slot 60, a job that is left is overdue; a fresh job isn't -/
theorem ed_due {c d p : Nat → Nat} (V : ed_V c d p) {t i : Nat} (hi : i < 13) (hl : 0 < ed_LL c d p t i) (hm : t % p i = 0) :
    ed_DD c d p t i ≤ t := by
  obtain ⟨h1, h2, r, h3, h4, h5, h6⟩ := ed_inv c d p t i hl
  obtain ⟨v1, v2, v3, v4⟩ := V i hi (by omega)
  rw [h6]
  rcases Nat.lt_or_ge t (r + p i) with g | g
  · exact absurd (by rw [show r + (t - r) = t from by omega]; exact hm) (ed_modk h3 (k := t - r) (by omega) (by omega))
  · omega
theorem ed_due60 {c d p : Nat → Nat} (V : ed_V c d p) {i : Nat} (hi : i < 13) (hl : 0 < ed_LL c d p 60 i) :
    ed_DD c d p 60 i ≤ 60 :=
  ed_due V hi hl (V i hi (by have := (ed_inv c d p 60 i hl).1; omega)).2.2.2
theorem ed_old {c d p : Nat → Nat} (V : ed_V c d p) {t i : Nat} (hi : i < 13) (hl : 0 < ed_LA c d p t i) (hd : ed_DA c d p t i ≤ t) :
    0 < ed_LL c d p t i ∧ ed_DD c d p t i ≤ t := by
  unfold ed_LA ed_L1 at hl
  unfold ed_DA ed_D1 at hd
  by_cases z : 0 < c i ∧ 0 < p i ∧ t % p i = 0
  · rw [if_pos z] at hd
    have := (V i hi z.1).1
    omega
  · rw [if_neg z] at hl hd
    exact ⟨hl, hd⟩
/-! fewer parts: nothing is later (each job keeps its place in the order) -/
theorem ed_mono {c d p c' d' p' : Nat → Nat} (H : ∀ i, i < 13 → 0 < c' i → c i = c' i ∧ d i = d' i ∧ p i = p' i) :
    ∀ t i, i < 13 → ed_LL c' d' p' t i ≤ ed_LL c d p t i ∧ (0 < ed_LL c' d' p' t i → ed_DD c' d' p' t i = ed_DD c d p t i) := by
  intro t
  induction t with
  | zero => intro i _; exact ⟨Nat.le_refl _, fun h => absurd h (Nat.lt_irrefl 0)⟩
  | succ t ih =>
    have A : ∀ i, i < 13 → ed_LA c' d' p' t i ≤ ed_LA c d p t i ∧ (0 < ed_LA c' d' p' t i → ed_DA c' d' p' t i = ed_DA c d p t i) := by
      intro i hi
      obtain ⟨g1, g2⟩ := ih i hi
      by_cases hc : 0 < c' i
      · obtain ⟨e1, e2, e3⟩ := H i hi hc
        unfold ed_LA ed_L1 ed_DA ed_D1
        rw [e1, e2, e3]
        by_cases z : 0 < c' i ∧ 0 < p' i ∧ t % p' i = 0
        · rw [if_pos z, if_pos z, if_pos z, if_pos z]; exact ⟨Nat.le_refl _, fun _ => rfl⟩
        · rw [if_neg z, if_neg z, if_neg z, if_neg z]; exact ⟨g1, g2⟩
      · have h0 : ed_LA c' d' p' t i = 0 := by
          rcases Nat.eq_zero_or_pos (ed_LA c' d' p' t i) with h | h
          · exact h
          · have := (ed_invB c' d' p' t i h).1; omega
        rw [h0]
        exact ⟨Nat.zero_le _, fun h => absurd h (Nat.lt_irrefl 0)⟩
    intro i hi
    rw [ed_LL_s, ed_LL_s, ed_DD_s, ed_DD_s]
    have hle : ed_L2 (ed_LA c' d' p' t) (ed_B c' d' p' t) i ≤ ed_LA c' d' p' t i := by
      unfold ed_L2; split <;> omega
    obtain ⟨a1, a2⟩ := A i hi
    refine ⟨?_, fun h => a2 (by omega)⟩
    by_cases hb : ed_B c d p t = some i
    · have e1 : ed_L2 (ed_LA c d p t) (ed_B c d p t) i = ed_LA c d p t i - 1 := if_pos hb
      rw [e1]
      obtain ⟨b1, b2, b3, b4⟩ := ed_pk_some hb
      rcases Nat.lt_or_ge (ed_LA c' d' p' t i) (ed_LA c d p t i) with g | g
      · omega
      · have hp : 0 < ed_LA c' d' p' t i := by omega
        have hb' : ed_B c' d' p' t = some i := by
          refine ed_pk_uniq hi hp (fun k hk hl => ?_) (fun k hk hl => ?_)
          · obtain ⟨k1, k2⟩ := A k hk
            rw [a2 hp, k2 hl]; exact b3 k hk (by omega)
          · obtain ⟨k1, k2⟩ := A k (by omega)
            rw [a2 hp, k2 hl]; exact b4 k hk (by omega)
        have e2 : ed_L2 (ed_LA c' d' p' t) (ed_B c' d' p' t) i = ed_LA c' d' p' t i - 1 := if_pos hb'
        omega
    · have e1 : ed_L2 (ed_LA c d p t) (ed_B c d p t) i = ed_LA c d p t i := if_neg hb
      omega
theorem ed_ok_mono {c d p c' d' p' : Nat → Nat} (H : ∀ i, i < 13 → 0 < c' i → c i = c' i ∧ d i = d' i ∧ p i = p' i) {n : Nat}
    (h : ed_ok c d p n) : ed_ok c' d' p' n := by
  intro t ht hb
  obtain ⟨i, hi, hl, hd⟩ := hb
  obtain ⟨m1, m2⟩ := ed_mono H t i hi
  exact h t ht ⟨i, hi, by omega, by rw [← m2 hl]; exact hd⟩
end
section
/-! The table of tasks: P period (0: no task), F first core, G second core (3: none), K cost of the first part, C cost, D deadline -/
def ed_up (f : Nat → Nat) (j v : Nat) : Nat → Nat := fun i => if i = j then v else f i
theorem ed_up_s {f : Nat → Nat} {j v : Nat} : ed_up f j v j = v := if_pos rfl
theorem ed_up_n {f : Nat → Nat} {j v i : Nat} (h : i ≠ j) : ed_up f j v i = f i := if_neg h
def tb_c (P F G K C : Nat → Nat) (k : Nat) : Nat → Nat :=
  fun i => if P i = 0 then 0 else if F i = k then K i else if G i = k then C i - K i else 0
def tb_d (F G K D : Nat → Nat) (k : Nat) : Nat → Nat :=
  fun i => if F i = k then (if G i = 3 then D i else K i) else D i - K i
/-- one task's row -/
def tb_row (m pp f g x c d : Nat) : Prop :=
  pp ≤ 60 ∧ 60 % pp = 0 ∧ f < m ∧ 0 < x ∧ d ≤ pp ∧ c ≤ d ∧ ((g < m ∧ g ≠ f ∧ x < c) ∨ (g = 3 ∧ x = c))
def tb_ok (m : Nat) (P F G K C D : Nat → Nat) : Prop :=
  (1 ≤ m ∧ m ≤ 3) ∧ (∀ i, 12 ≤ i → P i = 0) ∧ (∀ i, 0 < P i → tb_row m (P i) (F i) (G i) (K i) (C i) (D i)) ∧
  (∀ k, k < m → ed_ok (tb_c P F G K C k) (tb_d F G K D k) P 61)
theorem tb_c_pos {P F G K C : Nat → Nat} {k i : Nat} (h : 0 < tb_c P F G K C k i) : 0 < P i := by
  unfold tb_c at h
  rcases Nat.eq_zero_or_pos (P i) with z | z
  · rw [if_pos z] at h; exact absurd h (Nat.lt_irrefl 0)
  · exact z
/-- every part of a table is a part as the document has it -/
theorem tb_V {m : Nat} {P F G K C D : Nat → Nat} (T : tb_ok m P F G K C D) {k : Nat} (hk : k < m) :
    ed_V (tb_c P F G K C k) (tb_d F G K D k) P := by
  intro i _ h
  have hp := tb_c_pos h
  obtain ⟨r1, r2, r3, r4, r5, r6, r7⟩ := T.2.2.1 i hp
  have hm := T.1
  unfold tb_c at h ⊢
  unfold tb_d
  rw [if_neg (by omega)] at h ⊢
  by_cases z : F i = k
  · rw [if_pos z, if_pos z]
    by_cases y : G i = 3
    · rw [if_pos y]; exact ⟨by omega, by omega, r1, r2⟩
    · rw [if_neg y]; exact ⟨by omega, by omega, r1, r2⟩
  · rw [if_neg z] at h
    rw [if_neg z, if_neg z]
    by_cases y : G i = k
    · rw [if_pos y]; exact ⟨by omega, by omega, r1, r2⟩
    · rw [if_neg y] at h; exact absurd h (Nat.lt_irrefl 0)
theorem tb_Vup {c d p : Nat → Nat} (V : ed_V c d p) {j x dd pp : Nat} (h1 : x ≤ dd) (h2 : dd ≤ pp) (h3 : pp ≤ 60) (h4 : 60 % pp = 0) :
    ed_V (ed_up c j x) (ed_up d j dd) (ed_up p j pp) := by
  intro i hi h
  by_cases z : i = j
  · subst z
    rw [ed_up_s, ed_up_s, ed_up_s]; exact ⟨h1, h2, h3, h4⟩
  · rw [ed_up_n z] at h
    rw [ed_up_n z, ed_up_n z, ed_up_n z]; exact V i hi h
/-- a task more, in row j that was free: core f with its first part and core g with its second one don't miss -/
theorem tb_add {m : Nat} {P F G K C D : Nat → Nat} (T : tb_ok m P F G K C D) {j pp f g x c d : Nat} (hj : j < 12) (hP : P j = 0) (hp0 : 0 < pp)
    (R : tb_row m pp f g x c d)
    (Hf : ed_ok (ed_up (tb_c P F G K C f) j x) (ed_up (tb_d F G K D f) j (if g = 3 then d else x)) (ed_up P j pp) 61)
    (Hg : g < m → ed_ok (ed_up (tb_c P F G K C g) j (c - x)) (ed_up (tb_d F G K D g) j (d - x)) (ed_up P j pp) 61) :
    tb_ok m (ed_up P j pp) (ed_up F j f) (ed_up G j g) (ed_up K j x) (ed_up C j c) (ed_up D j d) := by
  obtain ⟨t1, t2, t3, t4⟩ := T
  have R' := R
  obtain ⟨r1, r2, r3, r4, r5, r6, r7⟩ := R'
  have same : ∀ k i, i ≠ j → tb_c (ed_up P j pp) (ed_up F j f) (ed_up G j g) (ed_up K j x) (ed_up C j c) k i = tb_c P F G K C k i
      ∧ tb_d (ed_up F j f) (ed_up G j g) (ed_up K j x) (ed_up D j d) k i = tb_d F G K D k i := by
    intro k i z
    unfold tb_c tb_d
    rw [ed_up_n z, ed_up_n z, ed_up_n z, ed_up_n z, ed_up_n z, ed_up_n z]
    exact ⟨rfl, rfl⟩
  refine ⟨t1, fun i hi => ?_, fun i hi => ?_, fun k hk => ?_⟩
  · rw [ed_up_n (by omega)]; exact t2 i hi
  · by_cases z : i = j
    · subst z
      rw [ed_up_s, ed_up_s, ed_up_s, ed_up_s, ed_up_s, ed_up_s]; exact R
    · rw [ed_up_n z] at hi
      rw [ed_up_n z, ed_up_n z, ed_up_n z, ed_up_n z, ed_up_n z, ed_up_n z]; exact t3 i hi
  · by_cases kf : k = f
    · subst kf
      refine ed_ok_mono (fun i hi h => ?_) Hf
      by_cases z : i = j
      · subst z
        unfold tb_c tb_d
        simp only [ed_up_s, if_neg (show ¬ pp = 0 by omega), if_true]
        exact ⟨trivial, trivial, trivial⟩
      · rw [ed_up_n z, ed_up_n z, (same k i z).1, (same k i z).2]; exact ⟨rfl, rfl, rfl⟩
    · by_cases kg : k = g
      · subst kg
        refine ed_ok_mono (fun i hi h => ?_) (Hg hk)
        by_cases z : i = j
        · subst z
          unfold tb_c tb_d
          simp only [ed_up_s, if_neg (show ¬ pp = 0 by omega), if_neg (show ¬ f = k by omega), if_true]
          exact ⟨trivial, trivial, trivial⟩
        · rw [ed_up_n z, ed_up_n z, (same k i z).1, (same k i z).2]; exact ⟨rfl, rfl, rfl⟩
      · refine ed_ok_mono (fun i hi h => ?_) (t4 k hk)
        by_cases z : i = j
        · subst z
          unfold tb_c at h
          simp only [ed_up_s, if_neg (show ¬ pp = 0 by omega), if_neg (show ¬ f = k by omega), if_neg (show ¬ g = k by omega)] at h
          exact absurd h (Nat.lt_irrefl 0)
        · rw [ed_up_n z, (same k i z).1, (same k i z).2]; exact ⟨rfl, rfl, rfl⟩
/-- a task less -/
theorem tb_rem {m : Nat} {P F G K C D : Nat → Nat} (T : tb_ok m P F G K C D) (j : Nat) : tb_ok m (ed_up P j 0) F G K C D := by
  obtain ⟨t1, t2, t3, t4⟩ := T
  refine ⟨t1, fun i hi => ?_, fun i hi => ?_, fun k hk => ?_⟩
  · by_cases z : i = j
    · subst z; exact ed_up_s
    · rw [ed_up_n z]; exact t2 i hi
  · by_cases z : i = j
    · subst z; rw [ed_up_s] at hi; exact absurd hi (Nat.lt_irrefl 0)
    · rw [ed_up_n z] at hi ⊢; exact t3 i hi
  · refine ed_ok_mono (fun i hi h => ?_) (t4 k hk)
    have hp := tb_c_pos h
    by_cases z : i = j
    · subst z; rw [ed_up_s] at hp; exact absurd hp (Nat.lt_irrefl 0)
    · unfold tb_c; rw [ed_up_n z]; exact ⟨rfl, rfl, rfl⟩
/-- an empty table -/
theorem tb_new {m : Nat} (h1 : 1 ≤ m) (h3 : m ≤ 3) (F G K C D : Nat → Nat) : tb_ok m (fun _ => 0) F G K C D := by
  refine ⟨⟨h1, h3⟩, fun _ _ => rfl, fun i h => absurd h (Nat.lt_irrefl 0), fun k hk t ht hb => ?_⟩
  obtain ⟨i, hi, hl, hd⟩ := hb
  have h := (ed_inv _ _ _ t i hl).2.1
  exact absurd h (Nat.lt_irrefl 0)
/-! how many tasks; the free id; the load -/
def tb_n (P : Nat → Nat) : Nat → Nat
  | 0 => 0
  | n + 1 => if P n = 0 then tb_n P n else tb_n P n + 1
theorem tb_n_le (P : Nat → Nat) : ∀ n, tb_n P n ≤ n := by
  intro n
  induction n with
  | zero => exact Nat.le_refl 0
  | succ n ih => unfold tb_n; split <;> omega
theorem tb_n_far {P : Nat → Nat} {j v : Nat} : ∀ {n : Nat}, n ≤ j → tb_n (ed_up P j v) n = tb_n P n := by
  intro n
  induction n with
  | zero => intro _; rfl
  | succ n ih =>
    intro h
    unfold tb_n
    rw [ed_up_n (by omega), ih (by omega)]
theorem tb_n_add {P : Nat → Nat} {j v : Nat} (hP : P j = 0) (hv : 0 < v) : ∀ {n : Nat}, j < n → tb_n (ed_up P j v) n = tb_n P n + 1 := by
  intro n
  induction n with
  | zero => intro h; exact absurd h (Nat.not_lt_zero j)
  | succ n ih =>
    intro h
    unfold tb_n
    by_cases z : n = j
    · subst z
      rw [ed_up_s, if_neg (by omega), if_pos hP, tb_n_far (Nat.le_refl n)]
    · rw [ed_up_n z, ih (by omega)]
      split <;> rfl
theorem tb_n_sub {P : Nat → Nat} {j : Nat} (hP : 0 < P j) : ∀ {n : Nat}, j < n → tb_n (ed_up P j 0) n + 1 = tb_n P n := by
  intro n
  induction n with
  | zero => intro h; exact absurd h (Nat.not_lt_zero j)
  | succ n ih =>
    intro h
    unfold tb_n
    by_cases z : n = j
    · subst z
      rw [ed_up_s, if_pos rfl, if_neg (by omega), tb_n_far (Nat.le_refl n)]
    · rw [ed_up_n z, ← ih (by omega)]
      split <;> rfl
theorem tb_n_full {P : Nat → Nat} : ∀ {n : Nat}, (∀ i, i < n → 0 < P i) → tb_n P n = n := by
  intro n
  induction n with
  | zero => intro _; rfl
  | succ n ih =>
    intro h
    unfold tb_n
    rw [if_neg (by have := h n (by omega); omega), ih (fun i hi => h i (by omega))]
def tb_fr (P : Nat → Nat) (j : Nat) : Prop := j ≤ 12 ∧ (∀ i, i < j → 0 < P i) ∧ (j < 12 → P j = 0)
theorem tb_fr_ex (P : Nat → Nat) : ∃ j, tb_fr P j := by
  obtain ⟨k, hk, hl⟩ := pk_least (fun k => 12 ≤ k ∨ P k = 0) ⟨12, Or.inl (Nat.le_refl 12)⟩
  have h12 : k ≤ 12 := by
    rcases Nat.lt_or_ge 12 k with h | h
    · exact absurd (Or.inl (Nat.le_refl 12)) (hl 12 h)
    · exact h
  refine ⟨k, h12, fun i hi => ?_, fun h => ?_⟩
  · have := hl i hi
    rcases Nat.eq_zero_or_pos (P i) with z | z
    · exact absurd (Or.inr z) this
    · exact z
  · rcases hk with g | g
    · omega
    · exact g
theorem tb_fr_lt {P : Nat → Nat} {j : Nat} (h : tb_fr P j) (hn : tb_n P 12 < 12) : j < 12 := by
  rcases Nat.lt_or_ge j 12 with g | g
  · exact g
  · have e : j = 12 := by have := h.1; omega
    subst e
    have := tb_n_full h.2.1
    omega
def tb_ld (P c : Nat → Nat) : Nat → Nat
  | 0 => 0
  | n + 1 => if P n = 0 then tb_ld P c n else tb_ld P c n + c n * (60 / P n)
/-- with a part tried out: core k, id j -/
def tb_T (P F G K C D : Nat → Nat) (j pp k x dd : Nat) : Prop :=
  ed_ok (ed_up (tb_c P F G K C k) j x) (ed_up (tb_d F G K D k) j dd) (ed_up P j pp) 61
end
section
/-! What is looked for, T k x dd: core k doesn't miss with the part (x, dd, p) added -/
def ad_Q (T : Nat → Nat → Nat → Prop) (m c d x i j : Nat) : Prop := i < m ∧ j < m ∧ i ≠ j ∧ T i x x ∧ T j (c - x) (d - x)
theorem ad_greatest (Q : Nat → Prop) : ∀ n, (∃ x, 1 ≤ x ∧ x ≤ n ∧ Q x) → ∃ x, 1 ≤ x ∧ x ≤ n ∧ Q x ∧ ∀ y, x < y → y ≤ n → ¬ Q y := by
  intro n
  induction n with
  | zero => intro h; obtain ⟨x, a, b, _⟩ := h; omega
  | succ n ih =>
    intro h
    by_cases z : Q (n + 1)
    · exact ⟨n + 1, by omega, by omega, z, fun y a b => by omega⟩
    · obtain ⟨x, a, b, q⟩ := h
      have hx : x ≠ n + 1 := fun e => z (by rw [← e]; exact q)
      obtain ⟨x', a', b', q', g⟩ := ih ⟨x, a, by omega, q⟩
      refine ⟨x', a', by omega, q', fun y hy hn => ?_⟩
      by_cases e : y = n + 1
      · rw [e]; exact z
      · exact g y hy (by omega)
/-- whole on core k -/
def ad_W (T : Nat → Nat → Nat → Prop) (m c d k : Nat) : Prop := k < m ∧ T k c d ∧ ∀ k', k' < k → ¬ T k' c d
/-- split: x, i, j -/
def ad_Z (T : Nat → Nat → Nat → Prop) (m c d x i j : Nat) : Prop :=
  1 ≤ x ∧ x < c ∧ ad_Q T m c d x i j ∧ (∀ y, x < y → y < c → ∀ a b, ¬ ad_Q T m c d y a b) ∧ (∀ a, a < i → ∀ b, ¬ ad_Q T m c d x a b) ∧
  (∀ b, b < j → ¬ ad_Q T m c d x i b)
theorem ad_cases (T : Nat → Nat → Nat → Prop) (m c d : Nat) :
    (∃ k, ad_W T m c d k) ∨ ((∀ k, k < m → ¬ T k c d) ∧ ((∃ x i j, ad_Z T m c d x i j) ∨ (∀ x, 1 ≤ x → x < c → ∀ i j, ¬ ad_Q T m c d x i j))) := by
  by_cases h : ∃ k, k < m ∧ T k c d
  · obtain ⟨k, hk, hl⟩ := pk_least (fun k => k < m ∧ T k c d) h
    exact Or.inl ⟨k, hk.1, hk.2, fun a ha ht => hl a ha ⟨by have := hk.1; omega, ht⟩⟩
  · refine Or.inr ⟨fun k hk ht => h ⟨k, hk, ht⟩, ?_⟩
    by_cases g : ∃ x, 1 ≤ x ∧ x ≤ c - 1 ∧ ∃ i j, ad_Q T m c d x i j
    · obtain ⟨x, h1, h2, q, gx⟩ := ad_greatest (fun x => ∃ i j, ad_Q T m c d x i j) (c - 1) g
      obtain ⟨i, qi, gi⟩ := pk_least (fun i => ∃ j, ad_Q T m c d x i j) q
      obtain ⟨j, qj, gj⟩ := pk_least (fun j => ad_Q T m c d x i j) qi
      exact Or.inl ⟨x, i, j, h1, by omega, qj, fun y a b i' j' z => gx y a (by omega) ⟨i', j', z⟩, fun a ha b z => gi a ha ⟨b, z⟩, gj⟩
    · exact Or.inr (fun x h1 h2 i j z => g ⟨x, h1, by omega, i, j, z⟩)
end
section
/-! a core under test on arrays; jobs on arrays -/
def ru_T (ac ad ap : Nat → Int32) (c d p : Nat → Nat) : Prop :=
  ∀ i, i < 13 → ac i = nI (c i) ∧ (0 < c i → ad i = nI (d i) ∧ ap i = nI (p i))
def ru_J (jl jd : Nat → Int32) (L D : Nat → Nat) : Prop :=
  ∀ i, i < 13 → jl i = nI (L i) ∧ L i ≤ 60 ∧ (0 < L i → jd i = nI (D i) ∧ D i ≤ 120)
def ru_e : Option Nat → Int32
  | none => -5
  | some b => nI b
def ru_mx (k : Nat) (f g : Nat → Nat) : Nat → Nat := fun i => if i < k then f i else g i
theorem ru_mx_lo {k : Nat} {f g : Nat → Nat} {i : Nat} (h : i < k) : ru_mx k f g i = f i := if_pos h
theorem ru_mx_hi {k : Nat} {f g : Nat → Nat} {i : Nat} (h : k ≤ i) : ru_mx k f g i = g i := if_neg (by omega)
theorem ru_mx_keep {k : Nat} {f g : Nat → Nat} (h : f k = g k) : ru_mx (k + 1) f g = ru_mx k f g := by
  funext i
  rcases Nat.lt_trichotomy i k with z | z | z
  · rw [ru_mx_lo (by omega), ru_mx_lo z]
  · subst z; rw [ru_mx_lo (by omega), ru_mx_hi (Nat.le_refl _)]; exact h
  · rw [ru_mx_hi (by omega), ru_mx_hi (by omega)]
theorem ru_mx_put {k : Nat} {f g : Nat → Nat} : ru_mx (k + 1) f g = ed_up (ru_mx k f g) k (f k) := by
  funext i
  rcases Nat.lt_trichotomy i k with z | z | z
  · rw [ed_up_n (by omega), ru_mx_lo (by omega), ru_mx_lo z]
  · subst z; rw [ed_up_s, ru_mx_lo (by omega)]
  · rw [ed_up_n (by omega), ru_mx_hi (by omega), ru_mx_hi (by omega)]
theorem ru_mx_0 {f g : Nat → Nat} : ru_mx 0 f g = g := by
  funext i; exact ru_mx_hi (Nat.zero_le _)
theorem ru_J_13 {jl jd : Nat → Int32} {L L' D D' : Nat → Nat} (J : ru_J jl jd (ru_mx 13 L' L) (ru_mx 13 D' D)) : ru_J jl jd L' D' := by
  intro i hi
  have := J i hi
  rw [ru_mx_lo hi, ru_mx_lo hi] at this
  exact this
theorem ru_J_up {jl jd : Nat → Int32} {L D : Nat → Nat} (J : ru_J jl jd L D) {k x y : Nat} (hx : x ≤ 60) (hy : y ≤ 120) :
    ru_J (upd jl k (nI x)) (upd jd k (nI y)) (ed_up L k x) (ed_up D k y) := by
  intro i hi
  by_cases z : i = k
  · subst z
    rw [pk_us, pk_us, ed_up_s, ed_up_s]
    exact ⟨rfl, hx, fun _ => ⟨rfl, hy⟩⟩
  · rw [pk_un z, pk_un z, ed_up_n z, ed_up_n z]
    exact J i hi
theorem ru_T_up {ac ad ap : Nat → Int32} {c d p : Nat → Nat} (T : ru_T ac ad ap c d p) (k x y q : Nat) :
    ru_T (upd ac k (nI x)) (upd ad k (nI y)) (upd ap k (nI q)) (ed_up c k x) (ed_up d k y) (ed_up p k q) := by
  intro i hi
  by_cases z : i = k
  · subst z
    rw [pk_us, pk_us, pk_us, ed_up_s, ed_up_s, ed_up_s]
    exact ⟨rfl, fun _ => ⟨rfl, rfl⟩⟩
  · rw [pk_un z, pk_un z, pk_un z, ed_up_n z, ed_up_n z, ed_up_n z]
    exact T i hi
theorem ru_cb {c d p : Nat → Nat} (V : ed_V c d p) {k : Nat} (hk : k < 13) : c k ≤ 60 := by
  rcases Nat.eq_zero_or_pos (c k) with z | z
  · omega
  · have := V k hk z; omega
theorem ru_LL_b {c d p : Nat → Nat} (V : ed_V c d p) {t i : Nat} (hi : i < 13) (ht : t ≤ 60) :
    ed_LL c d p t i ≤ 60 ∧ (0 < ed_LL c d p t i → ed_DD c d p t i ≤ 120) := by
  rcases Nat.eq_zero_or_pos (ed_LL c d p t i) with z | z
  · exact ⟨by omega, fun h => by omega⟩
  · obtain ⟨h1, h2, r, h3, h4, h5, h6⟩ := ed_inv c d p t i z
    have := V i hi (by omega)
    exact ⟨by omega, fun _ => by omega⟩
theorem ru_L1_y {c p L : Nat → Nat} {t i : Nat} (h1 : 0 < c i) (h2 : 0 < p i) (h3 : t % p i = 0) : ed_L1 c p L t i = c i := if_pos ⟨h1, h2, h3⟩
theorem ru_D1_y {c d p D : Nat → Nat} {t i : Nat} (h1 : 0 < c i) (h2 : 0 < p i) (h3 : t % p i = 0) : ed_D1 c d p D t i = t + d i := if_pos ⟨h1, h2, h3⟩
theorem ru_L1_n {c p L : Nat → Nat} {t i : Nat} (h : ¬ (0 < c i ∧ 0 < p i ∧ t % p i = 0)) : ed_L1 c p L t i = L i := if_neg h
theorem ru_D1_n {c d p D : Nat → Nat} {t i : Nat} (h : ¬ (0 < c i ∧ 0 < p i ∧ t % p i = 0)) : ed_D1 c d p D t i = D i := if_neg h
/-! one slot: the picked job on arrays -/
theorem ru_J_run {jl jd : Nat → Int32} {L D : Nat → Nat} (J : ru_J jl jd L D) {b : Nat} (hb : b < 13) (hL : 0 < L b) :
    ru_J (upd jl b (nI (L b - 1))) jd (ed_L2 L (some b)) D := by
  intro i hi
  obtain ⟨j1, j2, j3⟩ := J i hi
  unfold ed_L2
  by_cases z : i = b
  · subst z
    rw [if_pos rfl, pk_us]
    exact ⟨rfl, by omega, fun _ => j3 hL⟩
  · have hn : ¬ (some b = some i) := fun e => z (Option.some.inj e).symm
    rw [if_neg hn, pk_un z]
    exact ⟨j1, j2, j3⟩
theorem ru_J_idle {jl jd : Nat → Int32} {L D : Nat → Nat} (J : ru_J jl jd L D) : ru_J jl jd (ed_L2 L none) D := J
theorem ru_R_idle {d L D R : Nat → Nat} {t : Nat} : ed_R2 d L D R t none = R := by
  funext i
  exact if_neg (fun h => by cases h.1)
theorem ru_R_run {lr : Nat → Int32} {d L D R : Nat → Nat} {t b : Nat} (H : ∀ i, i < 13 → lr i = nI (R i))
    (hn : ¬ (L b = 1 ∧ R b < t + 1 - (D b - d b))) : ∀ i, i < 13 → lr i = nI (ed_R2 d L D R t (some b) i) := by
  intro i hi
  unfold ed_R2
  rw [if_neg (fun h => by
    have e : b = i := Option.some.inj h.1
    subst e
    exact hn h.2)]
  exact H i hi
theorem ru_R_put {lr : Nat → Int32} {d L D R : Nat → Nat} {t b : Nat} (H : ∀ i, i < 13 → lr i = nI (R i))
    (hn : L b = 1 ∧ R b < t + 1 - (D b - d b)) : ∀ i, i < 13 → upd lr b (nI (t + 1 - (D b - d b))) i = nI (ed_R2 d L D R t (some b) i) := by
  intro i hi
  unfold ed_R2
  by_cases z : i = b
  · subst z
    rw [if_pos ⟨rfl, hn⟩, pk_us]
  · rw [if_neg (fun h => z (Option.some.inj h.1).symm), pk_un z]
    exact H i hi
theorem ru_S_put {rs : Nat → Int32} {B : Nat → Option Nat} {t : Nat} {x : Int32} (H : ∀ s, s < t → rs s = ru_e (B s)) (hx : x = ru_e (B t)) :
    ∀ s, s < t + 1 → upd rs t x s = ru_e (B s) := by
  intro s hs
  by_cases z : s = t
  · subst z; rw [pk_us, hx]
  · rw [pk_un z]; exact H s (by omega)
/-- a job that is left: released at D - d -/
theorem ru_rel {c d p : Nat → Nat} {t i : Nat} (h : 0 < ed_LA c d p t i) : d i ≤ ed_DA c d p t i ∧ ed_DA c d p t i - d i ≤ t := by
  obtain ⟨h1, h2, r, h3, h4, h5, h6⟩ := ed_invB c d p t i h
  omega
end
section
/-! the walks of the run, the first program -/
section
variable {fc fn : Int32} {tp tf ts pc pd ac ad ap jl jd lr rs : Nat → Int32} {c d p L D : Nat → Nat}
theorem rx_ne5 {b : Nat} (h : b < 2 ^ 31) : ¬ nI b = -5 := by
  intro e
  have h1 := nI_toInt h
  rw [e] at h1
  have h2 : (-5 : Int32).toInt = -5 := by decide
  omega
theorem rx_over_l {post : Int32 → Prop} (J : ru_J jl jd L D) {t : Nat} (ht : t ≤ 60) (h1 : ed_bad L D t → post 1) (h0 : ¬ ed_bad L D t → post 0) :
    ∀ e k, k + e = 13 → (∀ i, i < k → ¬ (0 < L i ∧ D i ≤ t)) → wX_isOverdue_2 post (nI t) fc fn tp tf ts pc pd ac ad ap jl jd lr rs (e + 1) (nI k) := by
  intro e
  induction e with
  | zero =>
    intro k hk hn
    have hk' : k = 13 := by omega
    subst hk'
    refine pk_le 13 13 (fun _ => ?_) (fun h => absurd h (by omega))
    exact h0 (fun ⟨i, hi, a, b⟩ => hn i hi ⟨a, b⟩)
  | succ e ih =>
    intro k hk hn
    have hc : (nI k).toNatClampNeg = k := nI_clamp (by omega)
    have hin : vp_in (nI k) 13 := vp_in_nI (by omega) (by omega)
    have hk13 : k < 13 := by omega
    obtain ⟨j1, j2, j3⟩ := J k hk13
    have eL : jl (nI k).toNatClampNeg = nI (L k) := by rw [hc]; exact j1
    refine pk_le 13 k (fun h => absurd h (by omega)) (fun _ => ⟨hin, pk_le (L k) 0 (fun h => ?_) (fun h => ?_) eL⟩)
    · exact nm_r (nI_1 k) (ih (k + 1) (by omega) (lt_s hn (fun z => by omega)))
    · obtain ⟨g1, g2⟩ := j3 h
      have eD : jd (nI k).toNatClampNeg = nI (D k) := by rw [hc]; exact g1
      refine ⟨hin, pk_lt t (D k) (fun g => ?_) (fun g => ?_) rfl eD⟩
      · exact nm_r (nI_1 k) (ih (k + 1) (by omega) (lt_s hn (fun z => by omega)))
      · exact h1 ⟨k, hk13, h, g⟩
theorem rx_over {post : Int32 → Prop} (J : ru_J jl jd L D) {t : Nat} (ht : t ≤ 60) (h1 : ed_bad L D t → post 1) (h0 : ¬ ed_bad L D t → post 0) :
    wpX_isOverdue post (fc, fn, tp, tf, ts, pc, pd, ac, ad, ap, jl, jd, lr, rs) (nI t) :=
  ⟨14, rx_over_l J ht h1 h0 13 0 rfl (fun i hi => absurd hi (Nat.not_lt_zero i))⟩
theorem rx_pick_l {post : Int32 → Prop} (J : ru_J jl jd L D) (h : post (ru_e (ed_pk L D 13))) :
    ∀ e k, k + e = 13 → wX_mostUrgentJob_5 post fc fn tp tf ts pc pd ac ad ap jl jd lr rs (e + 1) (ru_e (ed_pk L D k)) (nI k) := by
  intro e
  induction e with
  | zero =>
    intro k hk
    have hk' : k = 13 := by omega
    subst hk'
    exact pk_le 13 13 (fun _ => h) (fun h => absurd h (by omega))
  | succ e ih =>
    intro k hk
    have hc : (nI k).toNatClampNeg = k := nI_clamp (by omega)
    have hin : vp_in (nI k) 13 := vp_in_nI (by omega) (by omega)
    have hk13 : k < 13 := by omega
    obtain ⟨j1, j2, j3⟩ := J k hk13
    have eL : jl (nI k).toNatClampNeg = nI (L k) := by rw [hc]; exact j1
    have nx := ih (k + 1) (by omega)
    cases hb : ed_pk L D k with
    | none =>
      refine pk_le 13 k (fun h => absurd h (by omega)) (fun _ => ⟨hin, pk_le (L k) 0 (fun h => ?_) (fun h => ?_) eL⟩)
      · have e1 : ed_pk L D (k + 1) = none := by simp only [ed_pk, hb]; exact if_neg (by omega)
        rw [e1] at nx
        exact nm_r (nI_1 k) nx
      · have e1 : ed_pk L D (k + 1) = some k := by simp only [ed_pk, hb]; exact if_pos h
        rw [e1] at nx
        exact br_t rfl (nm_r (nI_1 k) nx)
    | some b =>
      obtain ⟨b1, b2, b3, b4⟩ := ed_pk_some hb
      have hcb : (nI b).toNatClampNeg = b := nI_clamp (by omega)
      have hinb : vp_in (nI b) 13 := vp_in_nI (by omega) (by omega)
      have hne : ¬ ru_e (some b) = -5 := rx_ne5 (by omega)
      obtain ⟨a1, a2, a3⟩ := J b (by omega)
      obtain ⟨a4, a5⟩ := a3 b2
      refine pk_le 13 k (fun h => absurd h (by omega)) (fun _ => ⟨hin, pk_le (L k) 0 (fun h => ?_) (fun h => br_f hne ⟨hin, hinb, ?_⟩) eL⟩)
      · have e1 : ed_pk L D (k + 1) = some b := by simp only [ed_pk, hb]; exact if_neg (by omega)
        rw [e1] at nx
        exact nm_r (nI_1 k) nx
      · obtain ⟨g1, g2⟩ := j3 h
        have eD : jd (nI k).toNatClampNeg = nI (D k) := by rw [hc]; exact g1
        have eB : jd (ru_e (some b)).toNatClampNeg = nI (D b) := by show jd (nI b).toNatClampNeg = _; rw [hcb]; exact a4
        refine pk_le (D b) (D k) (fun g => ?_) (fun g => ?_) eB eD
        · have e1 : ed_pk L D (k + 1) = some b := by simp only [ed_pk, hb]; exact if_neg (by omega)
          rw [e1] at nx
          exact nm_r (nI_1 k) nx
        · have e1 : ed_pk L D (k + 1) = some k := by simp only [ed_pk, hb]; exact if_pos ⟨h, g⟩
          rw [e1] at nx
          exact nm_r (nI_1 k) nx
theorem rx_pick {post : Int32 → Prop} (J : ru_J jl jd L D) (h : post (ru_e (ed_pk L D 13))) :
    wpX_mostUrgentJob post (fc, fn, tp, tf, ts, pc, pd, ac, ad, ap, jl, jd, lr, rs) :=
  ⟨14, rx_pick_l J h 13 0 rfl⟩
theorem rx_rel_l {post : SX → Prop} (V : ed_V c d p) (T : ru_T ac ad ap c d p) {t : Nat} (ht : t < 60)
    (H : ∀ jl' jd', ru_J jl' jd' (ed_L1 c p L t) (ed_D1 c d p D t) → post (fc, fn, tp, tf, ts, pc, pd, ac, ad, ap, jl', jd', lr, rs)) :
    ∀ e k, k + e = 13 → ∀ jl jd, ru_J jl jd (ru_mx k (ed_L1 c p L t) L) (ru_mx k (ed_D1 c d p D t) D) →
      wX_releaseJobs_2 post (nI t) fc fn (e + 1) (nI k) tp tf ts pc pd ac ad ap jl jd lr rs := by
  intro e
  induction e with
  | zero =>
    intro k hk jl jd J
    have hk' : k = 13 := by omega
    subst hk'
    exact pk_le 13 13 (fun _ => H jl jd (ru_J_13 J)) (fun h => absurd h (by omega))
  | succ e ih =>
    intro k hk jl jd J
    have hc : (nI k).toNatClampNeg = k := nI_clamp (by omega)
    have hin : vp_in (nI k) 13 := vp_in_nI (by omega) (by omega)
    have hk13 : k < 13 := by omega
    have eT : ac (nI k).toNatClampNeg = nI (c k) := by rw [hc]; exact (T k hk13).1
    have bc : c k ≤ 60 := ru_cb V hk13
    have keep : ¬ (0 < c k ∧ 0 < p k ∧ t % p k = 0) → ru_J jl jd (ru_mx (k + 1) (ed_L1 c p L t) L) (ru_mx (k + 1) (ed_D1 c d p D t) D) := by
      intro z
      rw [ru_mx_keep (ru_L1_n z), ru_mx_keep (ru_D1_n z)]; exact J
    refine pk_le 13 k (fun h => absurd h (by omega)) (fun _ => ⟨hin, pk_le (c k) 0 (fun h => ?_) (fun h => ?_) eT⟩)
    · exact nm_r (nI_1 k) (ih (k + 1) (by omega) jl jd (keep (fun z => by omega)))
    · obtain ⟨v1, v2, v3, v4⟩ := V k hk13 h
      obtain ⟨g1, g2⟩ := (T k hk13).2 h
      have eP : ap (nI k).toNatClampNeg = nI (p k) := by rw [hc]; exact g2
      refine ⟨hin, pk_le (p k) 0 (fun h => absurd h (by omega)) (fun hp => ⟨hin, ?_, ?_⟩) eP⟩
      · rw [eP]; exact nI_ne0 hp (by omega)
      · have eR : nI t - nI t / ap (nI k).toNatClampNeg * ap (nI k).toNatClampNeg = nI (t % p k) := by
          rw [eP]; exact pk_rem (by omega) hp (by omega)
        have bm : t % p k ≤ t := Nat.mod_le _ _
        refine pk_eq (t % p k) 0 (fun hm => ⟨hin, hin, fun jl' el => ⟨hin, hin, fun jd' eu => ?_⟩⟩) (fun hm => ?_) eR
        · rw [eT, hc] at el
          rw [hc, g1, nI_add] at eu
          subst el eu
          refine nm_r (nI_1 k) (ih (k + 1) (by omega) _ _ ?_)
          have J' := ru_J_up J (k := k) (x := c k) (y := t + d k) bc (by omega)
          rw [ru_mx_put, ru_mx_put, ru_L1_y h hp hm, ru_D1_y h hp hm]
          exact J'
        · exact nm_r (nI_1 k) (ih (k + 1) (by omega) jl jd (keep (fun z => hm z.2.2)))
theorem rx_rel {post : SX → Prop} (V : ed_V c d p) (T : ru_T ac ad ap c d p) (J : ru_J jl jd L D) {t : Nat} (ht : t < 60)
    (H : ∀ jl' jd', ru_J jl' jd' (ed_L1 c p L t) (ed_D1 c d p D t) → post (fc, fn, tp, tf, ts, pc, pd, ac, ad, ap, jl', jd', lr, rs)) :
    wpX_releaseJobs post (fc, fn, tp, tf, ts, pc, pd, ac, ad, ap, jl, jd, lr, rs) (nI t) :=
  ⟨14, rx_rel_l (L := L) (D := D) V T ht H 13 0 rfl jl jd (by rw [ru_mx_0, ru_mx_0]; exact J)⟩
/-- the slots so far, -5 in those to come -/
def ru_Z (rs : Nat → Int32) (B : Nat → Option Nat) (t : Nat) : Prop := (∀ s, s < t → rs s = ru_e (B s)) ∧ (∀ s, t ≤ s → s < 60 → rs s = -5)
theorem ru_Z_put {B : Nat → Option Nat} {t : Nat} {x : Int32} (H : ru_Z rs B t) (hx : x = ru_e (B t)) : ru_Z (upd rs t x) B (t + 1) :=
  ⟨ru_S_put H.1 hx, fun s h1 h2 => by rw [pk_un (by omega)]; exact H.2 s (by omega) h2⟩
theorem ru_Z_idle {B : Nat → Option Nat} {t : Nat} (ht : t < 60) (H : ru_Z rs B t) (hx : B t = none) : ru_Z rs B (t + 1) := by
  refine ⟨fun s h1 => ?_, fun s h1 h2 => H.2 s (by omega) h2⟩
  by_cases z : s = t
  · subst z; rw [hx]; exact H.2 s (Nat.le_refl _) ht
  · exact H.1 s (by omega)
theorem rx_job {post : SX → Prop} (V : ed_V c d p) (T : ru_T ac ad ap c d p) {t b : Nat} (ht : t < 60) (hB : ed_B c d p t = some b)
    (J : ru_J jl jd (ed_LA c d p t) (ed_DA c d p t)) (R : ∀ i, i < 13 → lr i = nI (ed_RR c d p t i)) (S : ru_Z rs (ed_B c d p) t)
    (H : ∀ jl' lr' rs', ru_J jl' jd (ed_LL c d p (t + 1)) (ed_DD c d p (t + 1)) → (∀ i, i < 13 → lr' i = nI (ed_RR c d p (t + 1) i)) →
      ru_Z rs' (ed_B c d p) (t + 1) → post (fc, fn, tp, tf, ts, pc, pd, ac, ad, ap, jl', jd, lr', rs')) :
    wpX_runJob post (fc, fn, tp, tf, ts, pc, pd, ac, ad, ap, jl, jd, lr, rs) (nI b) (nI t) := by
  obtain ⟨b1, b2, b3, b4⟩ := ed_pk_some hB
  have hct : (nI t).toNatClampNeg = t := nI_clamp (by omega)
  have hcb : (nI b).toNatClampNeg = b := nI_clamp (by omega)
  have hinb : vp_in (nI b) 13 := vp_in_nI (by omega) (by omega)
  obtain ⟨j1, j2, j3⟩ := J b b1
  obtain ⟨j4, j5⟩ := j3 b2
  obtain ⟨r1, r2⟩ := ru_rel b2
  have hcp : 0 < c b := by have := (ed_invB c d p t b b2).1; omega
  have hd : ad b = nI (d b) := ((T b b1).2 hcp).1
  have hR := ed_RR_le c d p t b
  refine ⟨vp_in_nI ht (by omega), fun rs' er => ⟨hinb, hinb, fun jl' el => ⟨hinb, ?_⟩⟩⟩
  rw [hct] at er
  rw [hcb, j1, show (1 : Int32) = nI 1 from rfl, pk_sub (by omega)] at el
  subst er el
  have J' : ru_J (upd jl b (nI (ed_LA c d p t b - 1))) jd (ed_LL c d p (t + 1)) (ed_DD c d p (t + 1)) := by
    rw [ed_LL_s, ed_DD_s, hB]; exact ru_J_run J b1 b2
  have S' : ru_Z (upd rs t (nI b)) (ed_B c d p) (t + 1) := ru_Z_put S (by rw [hB]; rfl)
  refine pk_eq (ed_LA c d p t b - 1) 0 (fun h => ?_) (fun h => ?_) (by rw [hcb, pk_us])
  · refine ⟨hinb, hinb, nm_r (e' := nI (ed_DA c d p t b - d b)) (by rw [hcb, j4, hd, pk_sub r1]) (nm_r (e' := nI (t + 1 - (ed_DA c d p t b - d b))) ?_ ⟨hinb,
      pk_le (t + 1 - (ed_DA c d p t b - d b)) (ed_RR c d p t b) (fun g => ?_) (fun g => ⟨hinb, fun lr' elr => ?_⟩) rfl (by rw [hcb]; exact R b b1)⟩)⟩
    · rw [pk_sub r2, nI_1]; exact congrArg nI (by omega)
    · refine H _ _ _ J' ?_ S'
      rw [ed_RR_s, hB]
      exact ru_R_run R (fun z => by omega)
    · rw [hcb] at elr
      subst elr
      refine H _ _ _ J' ?_ S'
      rw [ed_RR_s, hB]
      exact ru_R_put R ⟨by omega, g⟩
  · refine H _ _ _ J' ?_ S'
    rw [ed_RR_s, hB]
    exact ru_R_run R (fun z => by omega)
theorem rx_run_l {post : Int32 → SX → Prop} (V : ed_V c d p) (T : ru_T ac ad ap c d p)
    (h1 : ed_ok c d p 61 → ∀ jl' jd' lr' rs', (∀ i, i < 13 → lr' i = nI (ed_RR c d p 60 i)) → (∀ s, s < 60 → rs' s = ru_e (ed_B c d p s)) →
      post 1 (fc, fn, tp, tf, ts, pc, pd, ac, ad, ap, jl', jd', lr', rs'))
    (h0 : ¬ ed_ok c d p 61 → ∀ jl' jd' lr' rs', post 0 (fc, fn, tp, tf, ts, pc, pd, ac, ad, ap, jl', jd', lr', rs')) :
    ∀ e t, t + e = 60 → ∀ jl jd lr rs, ru_J jl jd (ed_LL c d p t) (ed_DD c d p t) → (∀ i, i < 13 → lr i = nI (ed_RR c d p t i)) →
      ru_Z rs (ed_B c d p) t → ed_ok c d p t →
      wX_runWithoutMiss_6 post (e + 1) (nI t) fc fn tp tf ts pc pd ac ad ap jl jd lr rs := by
  intro e
  induction e with
  | zero =>
    intro t ht jl jd lr rs J R S ok
    have ht' : t = 60 := by omega
    subst ht'
    refine pk_le 60 60 (fun _ => rx_over J (Nat.le_refl _) (fun hb => ?_) (fun hb => ?_)) (fun h => absurd h (by omega))
    · exact br_f (by decide) (h0 (fun z => z 60 (by omega) hb) _ _ _ _)
    · exact br_t rfl (h1 (lt_s ok hb) _ _ _ _ R S.1)
  | succ e ih =>
    intro t ht jl jd lr rs J R S ok
    refine pk_le 60 t (fun h => absurd h (by omega)) (fun _ => rx_over J (by omega) (fun hb => ?_) (fun hb => ?_))
    · exact br_f (by decide) (h0 (fun z => z t (by omega) hb) _ _ _ _)
    · refine br_t rfl (rx_rel V T J (by omega) (fun jl' jd' J' => ?_))
      have ok' : ed_ok c d p (t + 1) := lt_s ok hb
      refine rx_pick J' ?_
      cases hB : ed_B c d p t with
      | none =>
        have e1 : ed_pk (ed_L1 c p (ed_LL c d p t) t) (ed_D1 c d p (ed_DD c d p t) t) 13 = none := hB
        rw [e1]
        refine br_t rfl (nm_r (nI_1 t) (ih (t + 1) (by omega) _ _ _ _ ?_ ?_ (ru_Z_idle (by omega) S hB) ok'))
        · rw [ed_LL_s, ed_DD_s, hB]; exact J'
        · rw [ed_RR_s, hB, ru_R_idle]; exact R
      | some b =>
        have e1 : ed_pk (ed_L1 c p (ed_LL c d p t) t) (ed_D1 c d p (ed_DD c d p t) t) 13 = some b := hB
        rw [e1]
        have hb13 : b < 13 := (ed_pk_some e1).1
        refine br_f (rx_ne5 (by omega)) (rx_job V T (by omega) hB J' R S (fun jl2 lr2 rs2 J2 R2 S2 => ?_))
        exact nm_r (nI_1 t) (ih (t + 1) (by omega) _ _ _ _ J2 R2 S2 ok')
theorem rx_forget_b {post : SX → Prop}
    (H : ∀ rs', (∀ s, s < 60 → rs' s = -5) → post (fc, fn, tp, tf, ts, pc, pd, ac, ad, ap, jl, jd, lr, rs')) :
    ∀ e k, k + e = 60 → ∀ rs, (∀ s, s < k → rs s = -5) → wX_forgetLastRun_37 post fc fn (e + 1) (nI k) tp tf ts pc pd ac ad ap jl jd lr rs := by
  intro e
  induction e with
  | zero =>
    intro k hk rs hr
    have hk' : k = 60 := by omega
    subst hk'
    exact pk_le 60 60 (fun _ => H rs hr) (fun h => absurd h (by omega))
  | succ e ih =>
    intro k hk rs hr
    have hc : (nI k).toNatClampNeg = k := nI_clamp (by omega)
    refine pk_le 60 k (fun h => absurd h (by omega)) (fun _ => ⟨vp_in_nI (by omega) (by omega), fun rs' er => nm_r (nI_1 k) (ih (k + 1) (by omega) rs' ?_)⟩)
    rw [hc] at er
    subst er
    refine lt_s (fun s hs => ?_) pk_us
    rw [pk_un (by omega)]; exact hr s hs
theorem rx_forget_a {post : SX → Prop}
    (H : ∀ jl' jd' lr' rs', (∀ i, i < 13 → jl' i = 0 ∧ lr' i = 0) → (∀ s, s < 60 → rs' s = -5) → post (fc, fn, tp, tf, ts, pc, pd, ac, ad, ap, jl', jd', lr', rs')) :
    ∀ e k, k + e = 13 → ∀ jl jd lr, (∀ i, i < k → jl i = 0 ∧ lr i = 0) → wX_forgetLastRun_2 post fc fn (e + 1) (nI k) tp tf ts pc pd ac ad ap jl jd lr rs := by
  intro e
  induction e with
  | zero =>
    intro k hk jl jd lr hr
    have hk' : k = 13 := by omega
    subst hk'
    refine pk_le 13 13 (fun _ => ?_) (fun h => absurd h (by omega))
    exact ⟨61, rx_forget_b (fun rs' h => H jl jd lr rs' hr h) 60 0 rfl rs (fun s hs => absurd hs (Nat.not_lt_zero s))⟩
  | succ e ih =>
    intro k hk jl jd lr hr
    have hc : (nI k).toNatClampNeg = k := nI_clamp (by omega)
    have hin : vp_in (nI k) 13 := vp_in_nI (by omega) (by omega)
    refine pk_le 13 k (fun h => absurd h (by omega)) (fun _ => ⟨hin, fun jl' e1 => ⟨hin, fun jd' e2 => ⟨hin, fun lr' e3 => nm_r (nI_1 k) (ih (k + 1) (by omega) jl' jd' lr' ?_)⟩⟩⟩)
    rw [hc] at e1 e3
    subst e1 e3
    refine lt_s (fun s hs => ?_) ⟨pk_us, pk_us⟩
    rw [pk_un (by omega), pk_un (by omega)]; exact hr s hs
theorem rx_run {post : Int32 → SX → Prop} (V : ed_V c d p) (T : ru_T ac ad ap c d p)
    (h1 : ed_ok c d p 61 → ∀ jl' jd' lr' rs', (∀ i, i < 13 → lr' i = nI (ed_RR c d p 60 i)) → (∀ s, s < 60 → rs' s = ru_e (ed_B c d p s)) →
      post 1 (fc, fn, tp, tf, ts, pc, pd, ac, ad, ap, jl', jd', lr', rs'))
    (h0 : ¬ ed_ok c d p 61 → ∀ jl' jd' lr' rs', post 0 (fc, fn, tp, tf, ts, pc, pd, ac, ad, ap, jl', jd', lr', rs')) :
    wpX_runWithoutMiss post (fc, fn, tp, tf, ts, pc, pd, ac, ad, ap, jl, jd, lr, rs) := by
  refine ⟨14, rx_forget_a (fun jl' jd' lr' rs' hj hs => ?_) 13 0 rfl jl jd lr (fun i hi => absurd hi (Nat.not_lt_zero i))⟩
  refine ⟨61, rx_run_l V T h1 h0 60 0 rfl _ _ _ _ (fun i hi => ⟨(hj i hi).1, Nat.zero_le _, fun h => absurd h (Nat.lt_irrefl 0)⟩) (fun i hi => (hj i hi).2)
    ⟨fun s hs => absurd hs (Nat.not_lt_zero s), fun s _ hs2 => hs s hs2⟩ (fun s hs => absurd hs (Nat.not_lt_zero s))⟩
theorem rx_take_l {post : SX → Prop} {k : Nat} (hk : k < 3)
    (H : ∀ ac' ad' ap', (∀ i, i < 13 → ac' i = pc (k * 13 + i) ∧ ad' i = pd (k * 13 + i) ∧ ap' i = tp i) →
      post (fc, fn, tp, tf, ts, pc, pd, ac', ad', ap', jl, jd, lr, rs)) :
    ∀ e i, i + e = 13 → ∀ ac ad ap, (∀ a, a < i → ac a = pc (k * 13 + a) ∧ ad a = pd (k * 13 + a) ∧ ap a = tp a) →
      wX_takeUnderTest_2 post (nI k) fc fn (e + 1) (nI i) tp tf ts pc pd ac ad ap jl jd lr rs := by
  intro e
  induction e with
  | zero =>
    intro i hi ac ad ap h
    have hi' : i = 13 := by omega
    subst hi'
    exact pk_le 13 13 (fun _ => H ac ad ap h) (fun h => absurd h (by omega))
  | succ e ih =>
    intro i hi ac ad ap h
    have hc : (nI i).toNatClampNeg = i := nI_clamp (by omega)
    have hin : vp_in (nI i) 13 := vp_in_nI (by omega) (by omega)
    have hx : nI k * 13 + nI i = nI (k * 13 + i) := by rw [show (13 : Int32) = nI 13 from rfl, pk_mul, nI_add]
    have hix : vp_in (nI k * 13 + nI i) 39 := pk_in (k * 13 + i) 39 (by omega) hx
    have hcx : (nI k * 13 + nI i).toNatClampNeg = k * 13 + i := pk_cl (k * 13 + i) hx
    refine pk_le 13 i (fun h => absurd h (by omega)) (fun _ => ⟨hix, hin, fun a1 e1 => ⟨hix, hin, fun a2 e2 => ⟨hin, hin, fun a3 e3 => nm_r (nI_1 i) (ih (i + 1) (by omega) a1 a2 a3 ?_)⟩⟩⟩)
    rw [hc, hcx] at e1 e2
    rw [hc] at e3
    subst e1 e2 e3
    refine lt_s (fun s hs => ?_) ⟨pk_us, pk_us, pk_us⟩
    rw [pk_un (by omega), pk_un (by omega), pk_un (by omega)]; exact h s hs
theorem rx_take {post : SX → Prop} {k : Nat} (hk : k < 3)
    (H : ∀ ac' ad' ap', (∀ i, i < 13 → ac' i = pc (k * 13 + i) ∧ ad' i = pd (k * 13 + i) ∧ ap' i = tp i) →
      post (fc, fn, tp, tf, ts, pc, pd, ac', ad', ap', jl, jd, lr, rs)) :
    wpX_takeUnderTest post (fc, fn, tp, tf, ts, pc, pd, ac, ad, ap, jl, jd, lr, rs) (nI k) :=
  ⟨14, rx_take_l hk H 13 0 rfl ac ad ap (fun a ha => absurd ha (Nat.not_lt_zero a))⟩
end
end
section
/-! the walks of the run, the second program -/
def ry_e : Option Nat → Int32
  | none => -1
  | some b => nI b
section
variable {g : Int32} {yP yC yD yF yO yS wc wd wp wl wu wn wr : Nat → Int32} {c d p L D : Nat → Nat}
theorem ry_rel_l {post : Int32 → SY → Prop} (V : ed_V c d p) (T : ru_T wc wd wp c d p) {t : Nat} (ht : t < 60)
    (h0 : ∀ i, i < 13 → 0 < L i → t % p i = 0 → ∀ wl' wu', post 0 (g, yP, yC, yD, yF, yO, yS, wc, wd, wp, wl', wu', wn, wr))
    (h1 : (∀ i, i < 13 → (0 < c i ∧ 0 < p i ∧ t % p i = 0) → L i = 0) → ∀ wl' wu', ru_J wl' wu' (ed_L1 c p L t) (ed_D1 c d p D t) →
      post 1 (g, yP, yC, yD, yF, yO, yS, wc, wd, wp, wl', wu', wn, wr)) :
    ∀ e k, k + e = 13 → ∀ wl wu, ru_J wl wu (ru_mx k (ed_L1 c p L t) L) (ru_mx k (ed_D1 c d p D t) D) →
      (∀ i, i < k → (0 < c i ∧ 0 < p i ∧ t % p i = 0) → L i = 0) →
      wY_release_2 post (nI t) g (e + 1) (nI k) yP yC yD yF yO yS wc wd wp wl wu wn wr := by
  intro e
  induction e with
  | zero =>
    intro k hk wl wu J hz
    have hk' : k = 13 := by omega
    subst hk'
    exact pk_le 13 13 (fun _ => h1 hz wl wu (ru_J_13 J)) (fun h => absurd h (by omega))
  | succ e ih =>
    intro k hk wl wu J hz
    have hc : (nI k).toNatClampNeg = k := nI_clamp (by omega)
    have hin : vp_in (nI k) 13 := vp_in_nI (by omega) (by omega)
    have hk13 : k < 13 := by omega
    have eT : wc (nI k).toNatClampNeg = nI (c k) := by rw [hc]; exact (T k hk13).1
    have bc : c k ≤ 60 := ru_cb V hk13
    have keep : ¬ (0 < c k ∧ 0 < p k ∧ t % p k = 0) → ru_J wl wu (ru_mx (k + 1) (ed_L1 c p L t) L) (ru_mx (k + 1) (ed_D1 c d p D t) D) := by
      intro z
      rw [ru_mx_keep (ru_L1_n z), ru_mx_keep (ru_D1_n z)]; exact J
    refine pk_le 13 k (fun h => absurd h (by omega)) (fun _ => ⟨hin, pk_le (c k) 0 (fun h => ?_) (fun h => ?_) eT⟩)
    · exact nm_r (nI_1 k) (ih (k + 1) (by omega) wl wu (keep (fun z => by omega)) (lt_s hz (fun z => by omega)))
    · obtain ⟨v1, v2, v3, v4⟩ := V k hk13 h
      obtain ⟨g1, g2⟩ := (T k hk13).2 h
      have eP : wp (nI k).toNatClampNeg = nI (p k) := by rw [hc]; exact g2
      refine ⟨hin, pk_le (p k) 0 (fun h => absurd h (by omega)) (fun hp => ⟨hin, ?_, ?_⟩) eP⟩
      · rw [eP]; exact nI_ne0 hp (by omega)
      · have eR : nI t - nI t / wp (nI k).toNatClampNeg * wp (nI k).toNatClampNeg = nI (t % p k) := by
          rw [eP]; exact pk_rem (by omega) hp (by omega)
        have bm : t % p k ≤ t := Nat.mod_le _ _
        have jk := J k hk13
        rw [ru_mx_hi (Nat.le_refl k)] at jk
        have eL : wl (nI k).toNatClampNeg = nI (L k) := by rw [hc]; exact jk.1
        have bL := jk.2.1
        refine pk_eq (t % p k) 0 (fun hm => ⟨hin, pk_le (L k) 0 (fun hl => ⟨hin, hin, fun jl' el => ⟨hin, hin, fun jd' eu => ?_⟩⟩) (fun hl => ?_) eL⟩) (fun hm => ?_) eR
        · rw [eT, hc] at el
          rw [hc, g1, nI_add] at eu
          subst el eu
          refine nm_r (nI_1 k) (ih (k + 1) (by omega) _ _ ?_ (lt_s hz (fun _ => by omega)))
          have J' := ru_J_up J (k := k) (x := c k) (y := t + d k) bc (by omega)
          rw [ru_mx_put, ru_mx_put, ru_L1_y h hp hm, ru_D1_y h hp hm]
          exact J'
        · exact h0 k hk13 hl hm wl wu
        · exact nm_r (nI_1 k) (ih (k + 1) (by omega) wl wu (keep (fun z => hm z.2.2)) (lt_s hz (fun z => absurd z.2.2 hm)))
theorem ry_rel {post : Int32 → SY → Prop} (V : ed_V c d p) (T : ru_T wc wd wp c d p) (J : ru_J wl wu L D) {t : Nat} (ht : t < 60)
    (h0 : ∀ i, i < 13 → 0 < L i → t % p i = 0 → ∀ wl' wu', post 0 (g, yP, yC, yD, yF, yO, yS, wc, wd, wp, wl', wu', wn, wr))
    (h1 : (∀ i, i < 13 → (0 < c i ∧ 0 < p i ∧ t % p i = 0) → L i = 0) → ∀ wl' wu', ru_J wl' wu' (ed_L1 c p L t) (ed_D1 c d p D t) →
      post 1 (g, yP, yC, yD, yF, yO, yS, wc, wd, wp, wl', wu', wn, wr)) :
    wpY_release post (g, yP, yC, yD, yF, yO, yS, wc, wd, wp, wl, wu, wn, wr) (nI t) :=
  ⟨14, ry_rel_l (L := L) (D := D) V T ht h0 h1 13 0 rfl wl wu (by rw [ru_mx_0, ru_mx_0]; exact J) (fun i hi => absurd hi (Nat.not_lt_zero i))⟩
theorem ry_neg : ry_e none < 0 := by decide
theorem ry_77 {post : Int32 → SY → Prop} {J30 : Int32 → Int32 → (Nat → Int32) → (Nat → Int32) → (Nat → Int32) → (Nat → Int32) → (Nat → Int32) → (Nat → Int32) → (Nat → Int32) → (Nat → Int32) → (Nat → Int32) → (Nat → Int32) → (Nat → Int32) → (Nat → Int32) → (Nat → Int32) → Prop}
    {J50 : Int32 → Int32 → Prop} {x1 : Int32} (J : ru_J wl wu L D) {k : Nat} (hk13 : k < 13) (nx : J50 (ry_e (ed_pk L D (k + 1))) (nI (k + 1))) :
    wY_runs_77 post J30 J50 x1 (ry_e (ed_pk L D k)) (nI k) g yP yC yD yF yO yS wc wd wp wl wu wn wr := by
  have hc : (nI k).toNatClampNeg = k := nI_clamp (by omega)
  have hin : vp_in (nI k) 13 := vp_in_nI (by omega) (by omega)
  obtain ⟨j1, j2, j3⟩ := J k hk13
  have eL : wl (nI k).toNatClampNeg = nI (L k) := by rw [hc]; exact j1
  cases hb : ed_pk L D k with
  | none =>
    refine ⟨hin, pk_le (L k) 0 (fun h => ?_) (fun h => ?_) eL⟩
    · have e1 : ed_pk L D (k + 1) = none := by simp only [ed_pk, hb]; exact if_neg (by omega)
      rw [e1] at nx
      exact nm_r (nI_1 k) nx
    · have e1 : ed_pk L D (k + 1) = some k := by simp only [ed_pk, hb]; exact if_pos h
      rw [e1] at nx
      exact br_t ry_neg (nm_r (nI_1 k) nx)
  | some b =>
    obtain ⟨b1, b2, b3, b4⟩ := ed_pk_some hb
    have hcb : (nI b).toNatClampNeg = b := nI_clamp (by omega)
    have hinb : vp_in (nI b) 13 := vp_in_nI (by omega) (by omega)
    have hne : ¬ ry_e (some b) < 0 := nI_pos (by omega)
    obtain ⟨a1, a2, a3⟩ := J b (by omega)
    obtain ⟨a4, a5⟩ := a3 b2
    refine ⟨hin, pk_le (L k) 0 (fun h => ?_) (fun h => br_f hne ⟨hin, hinb, ?_⟩) eL⟩
    · have e1 : ed_pk L D (k + 1) = some b := by simp only [ed_pk, hb]; exact if_neg (by omega)
      rw [e1] at nx
      exact nm_r (nI_1 k) nx
    · obtain ⟨g1, g2⟩ := j3 h
      have eD : wu (nI k).toNatClampNeg = nI (D k) := by rw [hc]; exact g1
      have eB : wu (ry_e (some b)).toNatClampNeg = nI (D b) := by show wu (nI b).toNatClampNeg = _; rw [hcb]; exact a4
      refine pk_le (D b) (D k) (fun g => ?_) (fun g => ?_) eB eD
      · have e1 : ed_pk L D (k + 1) = some b := by simp only [ed_pk, hb]; exact if_neg (by omega)
        rw [e1] at nx
        exact nm_r (nI_1 k) nx
      · have e1 : ed_pk L D (k + 1) = some k := by simp only [ed_pk, hb]; exact if_pos ⟨h, g⟩
        rw [e1] at nx
        exact nm_r (nI_1 k) nx
theorem ry_scan_l {post : Int32 → SY → Prop} {J30 : Int32 → Int32 → (Nat → Int32) → (Nat → Int32) → (Nat → Int32) → (Nat → Int32) → (Nat → Int32) → (Nat → Int32) → (Nat → Int32) → (Nat → Int32) → (Nat → Int32) → (Nat → Int32) → (Nat → Int32) → (Nat → Int32) → (Nat → Int32) → Prop}
    (J : ru_J wl wu L D) {t : Nat} (ht : t ≤ 60)
    (h0 : ∀ i, i < 13 → 0 < L i → D i ≤ t → post 0 (g, yP, yC, yD, yF, yO, yS, wc, wd, wp, wl, wu, wn, wr))
    (h1 : (∀ i, i < 13 → ¬ (0 < L i ∧ D i ≤ t)) →
      wY_runs_128 post J30 (nI t) (ry_e (ed_pk L D 13)) (ru_e (ed_pk L D 13)) (nI t) g yP yC yD yF yO yS wc wd wp wl wu wn wr) :
    ∀ e k, k + e = 13 → (∀ i, i < k → ¬ (0 < L i ∧ D i ≤ t)) →
      wY_runs_50 post J30 (nI t) g yP yC yD yF yO yS wc wd wp wl wu wn wr (e + 1) (ry_e (ed_pk L D k)) (nI k) := by
  intro e
  induction e with
  | zero =>
    intro k hk hn
    have hk' : k = 13 := by omega
    subst hk'
    have h := h1 hn
    refine pk_le 13 13 (fun _ => ?_) (fun h => absurd h (by omega))
    cases hb : ed_pk L D 13 with
    | none =>
      rw [hb] at h
      exact br_f (by decide) h
    | some b =>
      rw [hb] at h
      have hb13 := (ed_pk_some hb).1
      exact br_t (nI_pos' (by omega)) h
  | succ e ih =>
    intro k hk hn
    have hc : (nI k).toNatClampNeg = k := nI_clamp (by omega)
    have hin : vp_in (nI k) 13 := vp_in_nI (by omega) (by omega)
    have hk13 : k < 13 := by omega
    obtain ⟨j1, j2, j3⟩ := J k hk13
    have eL : wl (nI k).toNatClampNeg = nI (L k) := by rw [hc]; exact j1
    refine pk_le 13 k (fun h => absurd h (by omega)) (fun _ => ⟨hin, pk_le (L k) 0 (fun h => ?_) (fun h => ?_) eL⟩)
    · exact ry_77 J hk13 (ih (k + 1) (by omega) (lt_s hn (fun z => by omega)))
    · obtain ⟨g1, g2⟩ := j3 h
      have eD : wu (nI k).toNatClampNeg = nI (D k) := by rw [hc]; exact g1
      refine ⟨hin, pk_lt t (D k) (fun g => ?_) (fun g => ?_) rfl eD⟩
      · exact ry_77 J hk13 (ih (k + 1) (by omega) (lt_s hn (fun z => by omega)))
      · exact h0 k hk13 h g
theorem ry_job {post : Int32 → SY → Prop} {J30 : Int32 → Int32 → (Nat → Int32) → (Nat → Int32) → (Nat → Int32) → (Nat → Int32) → (Nat → Int32) → (Nat → Int32) → (Nat → Int32) → (Nat → Int32) → (Nat → Int32) → (Nat → Int32) → (Nat → Int32) → (Nat → Int32) → (Nat → Int32) → Prop}
    (V : ed_V c d p) (T : ru_T wc wd wp c d p) {t : Nat} (ht : t < 60)
    (J : ru_J wl wu (ed_LA c d p t) (ed_DA c d p t)) (R : ∀ i, i < 13 → wr i = nI (ed_RR c d p t i)) (S : ∀ s, s < t → wn s = ru_e (ed_B c d p s))
    (H : ∀ wl' wn' wr', ru_J wl' wu (ed_LL c d p (t + 1)) (ed_DD c d p (t + 1)) → (∀ i, i < 13 → wr' i = nI (ed_RR c d p (t + 1) i)) →
      (∀ s, s < t + 1 → wn' s = ru_e (ed_B c d p s)) → J30 (nI (t + 1)) g yP yC yD yF yO yS wc wd wp wl' wu wn' wr') :
    wY_runs_128 post J30 (nI t) (ry_e (ed_B c d p t)) (ru_e (ed_B c d p t)) (nI t) g yP yC yD yF yO yS wc wd wp wl wu wn wr := by
  have hct : (nI t).toNatClampNeg = t := nI_clamp (by omega)
  refine ⟨vp_in_nI ht (by omega), fun wn' en => ?_⟩
  rw [hct] at en
  subst en
  have S' : ∀ s, s < t + 1 → upd wn t (ru_e (ed_B c d p t)) s = ru_e (ed_B c d p s) := ru_S_put S rfl
  cases hB : ed_B c d p t with
  | none =>
    rw [hB] at S'
    refine br_t ry_neg (nm_r (nI_1 t) (H _ _ _ ?_ ?_ S'))
    · rw [ed_LL_s, ed_DD_s, hB]; exact J
    · rw [ed_RR_s, hB, ru_R_idle]; exact R
  | some b =>
    rw [hB] at S'
    obtain ⟨b1, b2, b3, b4⟩ := ed_pk_some hB
    have hcb : (ry_e (some b)).toNatClampNeg = b := nI_clamp (by omega)
    have hinb : vp_in (ry_e (some b)) 13 := vp_in_nI (by omega) (by omega)
    have hne : ¬ ry_e (some b) < 0 := nI_pos (by omega)
    obtain ⟨j1, j2, j3⟩ := J b b1
    obtain ⟨j4, j5⟩ := j3 b2
    obtain ⟨r1, r2⟩ := ru_rel b2
    have hcp : 0 < c b := by have := (ed_invB c d p t b b2).1; omega
    have hd : wd b = nI (d b) := ((T b b1).2 hcp).1
    have hR := ed_RR_le c d p t b
    refine br_f hne ⟨hinb, hinb, fun wl' el => ⟨hinb, hinb, nm_r (e' := nI (t + 1 - (ed_DA c d p t b - d b))) ?_ ⟨hinb, ?_⟩⟩⟩
    · rw [hcb, j4, hd, pk_sub r1, nI_1, pk_sub (by omega)]
    · rw [hcb, j1, show (1 : Int32) = nI 1 from rfl, pk_sub (by omega)] at el
      subst el
      have J' : ru_J (upd wl b (nI (ed_LA c d p t b - 1))) wu (ed_LL c d p (t + 1)) (ed_DD c d p (t + 1)) := by
        rw [ed_LL_s, ed_DD_s, hB]; exact ru_J_run J b1 b2
      refine pk_eq (ed_LA c d p t b - 1) 0 (fun h => ⟨hinb, ?_⟩) (fun h => ?_) (by rw [hcb, pk_us])
      · refine pk_le (t + 1 - (ed_DA c d p t b - d b)) (ed_RR c d p t b) (fun g => nm_r (nI_1 t) ?_) (fun g => ⟨hinb, fun wr' er => nm_r (nI_1 t) ?_⟩) rfl (by rw [hcb]; exact R b b1)
        · refine H _ _ _ J' ?_ S'
          rw [ed_RR_s, hB]
          exact ru_R_run R (fun z => by omega)
        · rw [hcb] at er
          subst er
          refine H _ _ _ J' ?_ S'
          rw [ed_RR_s, hB]
          exact ru_R_put R ⟨by omega, g⟩
      · refine nm_r (nI_1 t) (H _ _ _ J' ?_ S')
        rw [ed_RR_s, hB]
        exact ru_R_run R (fun z => by omega)
theorem ry_end_l {post : Int32 → SY → Prop} (J : ru_J wl wu L D)
    (h0 : ∀ i, i < 13 → 0 < L i → post 0 (g, yP, yC, yD, yF, yO, yS, wc, wd, wp, wl, wu, wn, wr))
    (h1 : (∀ i, i < 13 → L i = 0) → post 1 (g, yP, yC, yD, yF, yO, yS, wc, wd, wp, wl, wu, wn, wr)) :
    ∀ e k, k + e = 13 → (∀ i, i < k → L i = 0) → wY_runs_199 post g yP yC yD yF yO yS wc wd wp wl wu wn wr (e + 1) (nI k) := by
  intro e
  induction e with
  | zero =>
    intro k hk hn
    have hk' : k = 13 := by omega
    subst hk'
    exact pk_le 13 13 (fun _ => h1 hn) (fun h => absurd h (by omega))
  | succ e ih =>
    intro k hk hn
    have hc : (nI k).toNatClampNeg = k := nI_clamp (by omega)
    have hin : vp_in (nI k) 13 := vp_in_nI (by omega) (by omega)
    have hk13 : k < 13 := by omega
    obtain ⟨j1, j2, j3⟩ := J k hk13
    have eL : wl (nI k).toNatClampNeg = nI (L k) := by rw [hc]; exact j1
    refine pk_le 13 k (fun h => absurd h (by omega)) (fun _ => ⟨hin, pk_le (L k) 0 (fun h => ?_) (fun h => ?_) eL⟩)
    · exact nm_r (nI_1 k) (ih (k + 1) (by omega) (lt_s hn (by omega)))
    · exact h0 k hk13 h
theorem ry_run_l {post : Int32 → SY → Prop} (V : ed_V c d p) (T : ru_T wc wd wp c d p)
    (h1 : ed_ok c d p 61 → ∀ wl' wu' wn' wr', (∀ i, i < 13 → wr' i = nI (ed_RR c d p 60 i)) → (∀ s, s < 60 → wn' s = ru_e (ed_B c d p s)) →
      post 1 (g, yP, yC, yD, yF, yO, yS, wc, wd, wp, wl', wu', wn', wr'))
    (h0 : ¬ ed_ok c d p 61 → ∀ wl' wu' wn' wr', post 0 (g, yP, yC, yD, yF, yO, yS, wc, wd, wp, wl', wu', wn', wr')) :
    ∀ e t, t + e = 60 → ∀ wl wu wn wr, ru_J wl wu (ed_LL c d p t) (ed_DD c d p t) → (∀ i, i < 13 → wr i = nI (ed_RR c d p t i)) →
      (∀ s, s < t → wn s = ru_e (ed_B c d p s)) → ed_ok c d p t →
      wY_runs_30 post (e + 1) (nI t) g yP yC yD yF yO yS wc wd wp wl wu wn wr := by
  intro e
  induction e with
  | zero =>
    intro t ht wl wu wn wr J R S ok
    have ht' : t = 60 := by omega
    subst ht'
    refine pk_le 60 60 (fun _ => ⟨14, ry_end_l J (fun i hi hl => ?_) (fun hn => ?_) 13 0 rfl (fun i hi => absurd hi (Nat.not_lt_zero i))⟩) (fun h => absurd h (by omega))
    · exact h0 (fun z => z 60 (by omega) ⟨i, hi, hl, ed_due60 V hi hl⟩) _ _ _ _
    · refine h1 (lt_s ok (fun ⟨i, hi, hl, _⟩ => ?_)) _ _ _ _ R S
      have := hn i hi
      omega
  | succ e ih =>
    intro t ht wl wu wn wr J R S ok
    refine pk_le 60 t (fun h => absurd h (by omega)) (fun _ => ry_rel V T J (by omega) (fun i hi hl hm wl' wu' => ?_) (fun hz wl' wu' J' => ?_))
    · exact br_t rfl (h0 (fun z => z t (by omega) ⟨i, hi, hl, ed_due V hi hl hm⟩) _ _ _ _)
    · refine br_f (by decide) ⟨14, ry_scan_l J' (t := t) (by omega) (fun i hi hl hd => ?_) (fun hn => ?_) 13 0 rfl (fun i hi => absurd hi (Nat.not_lt_zero i))⟩
      · obtain ⟨o1, o2⟩ := ed_old V hi hl hd
        exact h0 (fun z => z t (by omega) ⟨i, hi, o1, o2⟩) _ _ _ _
      · have ok' : ed_ok c d p (t + 1) := by
          refine lt_s ok (fun ⟨i, hi, hl, hd⟩ => ?_)
          by_cases z : 0 < c i ∧ 0 < p i ∧ t % p i = 0
          · have := hz i hi z
            omega
          · exact hn i hi ⟨by rw [ru_L1_n z]; exact hl, by rw [ru_D1_n z]; exact hd⟩
        exact ry_job V T (by omega) J' R S (fun wl2 wn2 wr2 J2 R2 S2 => ih (t + 1) (by omega) _ _ _ _ J2 R2 S2 ok')
theorem ry_run_a {post : Int32 → SY → Prop} (V : ed_V c d p) (T : ru_T wc wd wp c d p)
    (h1 : ed_ok c d p 61 → ∀ wl' wu' wn' wr', (∀ i, i < 13 → wr' i = nI (ed_RR c d p 60 i)) → (∀ s, s < 60 → wn' s = ru_e (ed_B c d p s)) →
      post 1 (g, yP, yC, yD, yF, yO, yS, wc, wd, wp, wl', wu', wn', wr'))
    (h0 : ¬ ed_ok c d p 61 → ∀ wl' wu' wn' wr', post 0 (g, yP, yC, yD, yF, yO, yS, wc, wd, wp, wl', wu', wn', wr')) :
    ∀ e k, k + e = 13 → ∀ wl wr, (∀ i, i < k → wl i = 0 ∧ wr i = 0) → wY_runs_2 post g (e + 1) (nI k) yP yC yD yF yO yS wc wd wp wl wu wn wr := by
  intro e
  induction e with
  | zero =>
    intro k hk wl wr hr
    have hk' : k = 13 := by omega
    subst hk'
    refine pk_le 13 13 (fun _ => ?_) (fun h => absurd h (by omega))
    exact ⟨61, ry_run_l V T h1 h0 60 0 rfl _ _ _ _ (fun i hi => ⟨(hr i hi).1, Nat.zero_le _, fun h => absurd h (Nat.lt_irrefl 0)⟩) (fun i hi => (hr i hi).2)
      (fun s hs => absurd hs (Nat.not_lt_zero s)) (fun s hs => absurd hs (Nat.not_lt_zero s))⟩
  | succ e ih =>
    intro k hk wl wr hr
    have hc : (nI k).toNatClampNeg = k := nI_clamp (by omega)
    have hin : vp_in (nI k) 13 := vp_in_nI (by omega) (by omega)
    refine pk_le 13 k (fun h => absurd h (by omega)) (fun _ => ⟨hin, fun wl' e1 => ⟨hin, fun wr' e3 => nm_r (nI_1 k) (ih (k + 1) (by omega) wl' wr' ?_)⟩⟩)
    rw [hc] at e1 e3
    subst e1 e3
    refine lt_s (fun s hs => ?_) ⟨pk_us, pk_us⟩
    rw [pk_un (by omega), pk_un (by omega)]; exact hr s hs
theorem ry_run {post : Int32 → SY → Prop} (V : ed_V c d p) (T : ru_T wc wd wp c d p)
    (h1 : ed_ok c d p 61 → ∀ wl' wu' wn' wr', (∀ i, i < 13 → wr' i = nI (ed_RR c d p 60 i)) → (∀ s, s < 60 → wn' s = ru_e (ed_B c d p s)) →
      post 1 (g, yP, yC, yD, yF, yO, yS, wc, wd, wp, wl', wu', wn', wr'))
    (h0 : ¬ ed_ok c d p 61 → ∀ wl' wu' wn' wr', post 0 (g, yP, yC, yD, yF, yO, yS, wc, wd, wp, wl', wu', wn', wr')) :
    wpY_runs post (g, yP, yC, yD, yF, yO, yS, wc, wd, wp, wl, wu, wn, wr) :=
  ⟨14, ry_run_a V T h1 h0 13 0 rfl wl wr (fun i hi => absurd hi (Nat.not_lt_zero i))⟩
end
end
section
/-! the table on both programs' fields; a core taken under test; a part tried out -/
def tb_g (x : Nat) : Int32 := if x = 3 then -4 else nI x
theorem tb_g3 : tb_g 3 = -4 := if_pos rfl
theorem tb_gn {x : Nat} (h : x ≠ 3) : tb_g x = nI x := if_neg h
theorem tb_ne4 {b : Nat} (h : b < 2 ^ 31) : ¬ nI b = -4 := by
  intro e
  have h1 := nI_toInt h
  rw [e] at h1
  have h2 : (-4 : Int32).toInt = -4 := by decide
  omega
def tx_I (m : Nat) (P F G K C D : Nat → Nat) (fc fn : Int32) (tp tf ts pc pd : Nat → Int32) : Prop :=
  fc = nI m ∧ fn = nI (tb_n P 12) ∧ (∀ i, i < 13 → tp i = nI (P i) ∧ (0 < P i → tf i = nI (F i) ∧ ts i = tb_g (G i))) ∧
  (∀ k i, k < 3 → i < 13 → pc (k * 13 + i) = nI (tb_c P F G K C k i) ∧ (0 < tb_c P F G K C k i → pd (k * 13 + i) = nI (tb_d F G K D k i)))
def ty_I (m : Nat) (P F G K C D : Nat → Nat) (g : Int32) (yP yC yD yF yO yS : Nat → Int32) : Prop :=
  g = nI m ∧ ∀ i, i < 12 → yP i = nI (P i) ∧
    (0 < P i → yO i = nI (F i) ∧ yS i = tb_g (G i) ∧ yF i = nI (K i) ∧ yC i = nI (C i) ∧ yD i = nI (D i))
section
variable {fc fn : Int32} {tp tf ts pc pd ac ad ap jl jd lr rs : Nat → Int32} {m : Nat} {P F G K C D : Nat → Nat}
variable {g : Int32} {yP yC yD yF yO yS wc wd wp wl wu wn wr : Nat → Int32}
theorem tx_T (X : tx_I m P F G K C D fc fn tp tf ts pc pd) {k : Nat} (hk : k < 3)
    (h : ∀ i, i < 13 → ac i = pc (k * 13 + i) ∧ ad i = pd (k * 13 + i) ∧ ap i = tp i) :
    ru_T ac ad ap (tb_c P F G K C k) (tb_d F G K D k) P := by
  intro i hi
  obtain ⟨x1, x2, x3, x4⟩ := X
  obtain ⟨h1, h2, h3⟩ := h i hi
  obtain ⟨g1, g2⟩ := x4 k i hk hi
  exact ⟨h1.trans g1, fun z => ⟨h2.trans (g2 z), h3.trans (x3 i hi).1⟩⟩
theorem fx_take {post : SX → Prop} (X : tx_I m P F G K C D fc fn tp tf ts pc pd) {k : Nat} (hk : k < 3)
    (H : ∀ ac' ad' ap', ru_T ac' ad' ap' (tb_c P F G K C k) (tb_d F G K D k) P →
      post (fc, fn, tp, tf, ts, pc, pd, ac', ad', ap', jl, jd, lr, rs)) :
    wpX_takeUnderTest post (fc, fn, tp, tf, ts, pc, pd, ac, ad, ap, jl, jd, lr, rs) (nI k) :=
  rx_take hk (fun a b e h => H a b e (tx_T X hk h))
theorem fx_n1 : narrow .boolean (.int 1) = .int 1 := lw_bz_n 1
theorem fx_n0 : narrow .boolean (.int 0) = .int 0 := lw_bz_n 0
theorem fx_fits {post : Int32 → SX → Prop} (TB : tb_ok m P F G K C D) (X : tx_I m P F G K C D fc fn tp tf ts pc pd) {k j x dd pp : Nat}
    (hk : k < m) (hj : j < 13) (a1 : x ≤ dd) (a2 : dd ≤ pp) (a3 : pp ≤ 60) (a4 : 60 % pp = 0)
    (h1 : tb_T P F G K C D j pp k x dd → ∀ ac ad ap jl jd lr rs, post 1 (fc, fn, tp, tf, ts, pc, pd, ac, ad, ap, jl, jd, lr, rs))
    (h0 : ¬ tb_T P F G K C D j pp k x dd → ∀ ac ad ap jl jd lr rs, post 0 (fc, fn, tp, tf, ts, pc, pd, ac, ad, ap, jl, jd, lr, rs)) :
    wpX_fits post (fc, fn, tp, tf, ts, pc, pd, ac, ad, ap, jl, jd, lr, rs) (nI k) (nI j) (nI x) (nI dd) (nI pp) := by
  have hm := TB.1
  have hc : (nI j).toNatClampNeg = j := nI_clamp (by omega)
  have hin : vp_in (nI j) 13 := vp_in_nI hj (by omega)
  have V := tb_Vup (tb_V TB hk) (j := j) a1 a2 a3 a4
  unfold wpX_fits
  refine fx_take X (by omega) (fun ac1 ad1 ap1 T => ?_)
  refine ⟨hin, fun ac2 e1 => ⟨hin, fun ad2 e2 => ⟨hin, fun ap2 e3 => ?_⟩⟩⟩
  rw [hc] at e1 e2 e3
  subst e1 e2 e3
  exact rx_run V (ru_T_up T j x dd pp) (fun ok jl' jd' lr' rs' _ _ => ⟨fx_n1, h1 ok _ _ _ _ _ _ _⟩) (fun ok jl' jd' lr' rs' => ⟨fx_n0, h0 ok _ _ _ _ _ _ _⟩)
/-! the second program's parts -/
def ry_G (P F G K C D : Nat → Nat) (k i : Nat) (wc wd wp : Nat → Int32) : Prop :=
  (∀ a, a < i → wc a = nI (tb_c P F G K C k a) ∧ (0 < tb_c P F G K C k a → wd a = nI (tb_d F G K D k a) ∧ wp a = nI (P a))) ∧ wc 12 = 0
theorem ry_G_put {wc' wd' wp' : Nat → Int32} {k i : Nat} (h : ry_G P F G K C D k i wc wd wp) (hi : i < 12)
    (hn : ∀ a, a ≠ i → wc' a = wc a ∧ wd' a = wd a ∧ wp' a = wp a)
    (hs : wc' i = nI (tb_c P F G K C k i) ∧ (0 < tb_c P F G K C k i → wd' i = nI (tb_d F G K D k i) ∧ wp' i = nI (P i))) :
    ry_G P F G K C D k (i + 1) wc' wd' wp' := by
  refine ⟨lt_s (fun a ha => ?_) hs, ?_⟩
  · obtain ⟨n1, n2, n3⟩ := hn a (by omega)
    rw [n1, n2, n3]; exact h.1 a ha
  · rw [(hn 12 (by omega)).1]; exact h.2
theorem ry_G_T {k : Nat} (TB : tb_ok m P F G K C D) (h : ry_G P F G K C D k 12 wc wd wp) : ru_T wc wd wp (tb_c P F G K C k) (tb_d F G K D k) P := by
  intro i hi
  by_cases z : i < 12
  · exact h.1 i z
  · have e : i = 12 := by omega
    subst e
    have e0 : tb_c P F G K C k 12 = 0 := if_pos (TB.2.1 12 (by omega))
    rw [e0]
    exact ⟨h.2, fun z => absurd z (Nat.lt_irrefl 0)⟩
theorem ry_parts_l {post : SY → Prop} (TB : tb_ok m P F G K C D) (Y : ty_I m P F G K C D g yP yC yD yF yO yS) {k : Nat} (hk : k < 3)
    (H : ∀ wc' wd' wp', ru_T wc' wd' wp' (tb_c P F G K C k) (tb_d F G K D k) P → post (g, yP, yC, yD, yF, yO, yS, wc', wd', wp', wl, wu, wn, wr)) :
    ∀ e i, i + e = 12 → ∀ wc wd wp, ry_G P F G K C D k i wc wd wp →
      wY_parts_10 post (nI k) g (e + 1) (nI i) yP yC yD yF yO yS wc wd wp wl wu wn wr := by
  intro e
  induction e with
  | zero =>
    intro i hi wc wd wp h
    have hi' : i = 12 := by omega
    subst hi'
    exact pk_le 12 12 (fun _ => H wc wd wp (ry_G_T TB h)) (fun h => absurd h (by omega))
  | succ e ih =>
    intro i hi wc wd wp h
    have hi12 : i < 12 := by omega
    have hc : (nI i).toNatClampNeg = i := nI_clamp (by omega)
    have hin : vp_in (nI i) 13 := vp_in_nI (by omega) (by omega)
    have hi2 : vp_in (nI i) 12 := vp_in_nI (by omega) (by omega)
    obtain ⟨y1, y2⟩ := Y.2 i hi12
    have hm := TB.1
    have eP : yP (nI i).toNatClampNeg = nI (P i) := by rw [hc]; exact y1
    refine pk_le 12 i (fun h => absurd h (by omega)) (fun _ => ⟨hin, fun wc1 e1 => ⟨hi2, hin, fun wp1 e2 => ⟨hi2, ?_⟩⟩⟩)
    rw [hc] at e1
    rw [eP, hc] at e2
    subst e1 e2
    rcases Nat.eq_zero_or_pos (P i) with z | z
    · have e0 : yP (nI i).toNatClampNeg = 0 := by rw [eP, z]; rfl
      have nx : ry_G P F G K C D k (i + 1) (upd wc i 0) wd (upd wp i (nI (P i))) := by
        refine ry_G_put h hi12 (fun a ha => ⟨pk_un ha, rfl, pk_un ha⟩) ?_
        have t0 : tb_c P F G K C k i = 0 := if_pos z
        rw [t0, pk_us]
        exact ⟨rfl, fun z => absurd z (Nat.lt_irrefl 0)⟩
      exact br_c (fun _ => ⟨hi2, br_t e0 ⟨hi2, br_t e0 (nm_r (nI_1 i) (ih (i + 1) (by omega) _ _ _ nx))⟩⟩)
        (fun _ => ⟨hi2, br_t e0 ⟨hi2, br_t e0 (nm_r (nI_1 i) (ih (i + 1) (by omega) _ _ _ nx))⟩⟩)
    · obtain ⟨q1, q2, q3, q4, q5⟩ := y2 z
      obtain ⟨r1, r2, r3, r4, r5, r6, r7⟩ := TB.2.2.1 i z
      have e0 : ¬ yP (nI i).toNatClampNeg = 0 := by rw [eP]; exact nI_ne0 z (by omega)
      have eO : yO (nI i).toNatClampNeg = nI (F i) := by rw [hc]; exact q1
      have eS : yS (nI i).toNatClampNeg = tb_g (G i) := by rw [hc]; exact q2
      have eF : yF (nI i).toNatClampNeg = nI (K i) := by rw [hc]; exact q3
      have eC : yC (nI i).toNatClampNeg = nI (C i) := by rw [hc]; exact q4
      have eD : yD (nI i).toNatClampNeg = nI (D i) := by rw [hc]; exact q5
      by_cases zF : F i = k
      · have tc : tb_c P F G K C k i = K i := by unfold tb_c; rw [if_neg (by omega), if_pos zF]
        have ns : ¬ yS (nI i).toNatClampNeg = nI k := by
          rw [eS]
          by_cases z3 : G i = 3
          · rw [z3, tb_g3]; exact fun e => tb_ne4 (b := k) (by omega) e.symm
          · rw [tb_gn z3]; exact fun e => absurd ((nI_eq (by omega) (by omega)).mp e) (by omega)
        by_cases z3 : G i = 3
        · have td : tb_d F G K D k i = D i := by unfold tb_d; rw [if_pos zF, if_pos z3]
          refine br_t (by rw [eS, z3, tb_g3]) ⟨hi2, br_f e0 ⟨hi2, br_t (by rw [eO, zF]) ⟨hi2, hin, fun wc2 e3 => br_t rfl ⟨hi2, hin, fun wd2 e4 => ?_⟩⟩⟩⟩
          rw [eF, hc] at e3
          rw [eD, hc] at e4
          subst e3 e4
          refine ⟨hi2, br_f e0 ⟨hi2, br_f ns (nm_r (nI_1 i) (ih (i + 1) (by omega) _ _ _ ?_))⟩⟩
          refine ry_G_put h hi12 (fun a ha => ⟨by rw [pk_un ha, pk_un ha], pk_un ha, pk_un ha⟩) ?_
          rw [tc, td, pk_us, pk_us, pk_us]
          exact ⟨rfl, fun _ => ⟨rfl, rfl⟩⟩
        · have td : tb_d F G K D k i = K i := by unfold tb_d; rw [if_pos zF, if_neg z3]
          refine br_f (by rw [eS, tb_gn z3]; exact tb_ne4 (by omega)) ⟨hi2, br_f e0 ⟨hi2, br_t (by rw [eO, zF]) ⟨hi2, hin, fun wc2 e3 => br_f (by decide) ⟨hi2, hin, fun wd2 e4 => ?_⟩⟩⟩⟩
          rw [eF, hc] at e3
          rw [eF, hc] at e4
          subst e3 e4
          refine ⟨hi2, br_f e0 ⟨hi2, br_f ns (nm_r (nI_1 i) (ih (i + 1) (by omega) _ _ _ ?_))⟩⟩
          refine ry_G_put h hi12 (fun a ha => ⟨by rw [pk_un ha, pk_un ha], pk_un ha, pk_un ha⟩) ?_
          rw [tc, td, pk_us, pk_us, pk_us]
          exact ⟨rfl, fun _ => ⟨rfl, rfl⟩⟩
      · have nF : ¬ yO (nI i).toNatClampNeg = nI k := by
          rw [eO]; exact fun e => zF ((nI_eq (by omega) (by omega)).mp e)
        by_cases zG : G i = k
        · have tc : tb_c P F G K C k i = C i - K i := by unfold tb_c; rw [if_neg (by omega), if_neg zF, if_pos zG]
          have td : tb_d F G K D k i = D i - K i := by unfold tb_d; rw [if_neg zF]
          have ss : yS (nI i).toNatClampNeg = nI k := by rw [eS, tb_gn (by omega), zG]
          refine br_f (by rw [eS, tb_gn (by omega)]; exact tb_ne4 (by omega)) ⟨hi2, br_f e0 ⟨hi2, br_f nF ⟨hi2, br_f e0 ⟨hi2, br_t ss ⟨hi2, hi2, hin, fun wc2 e3 => ⟨hi2, hi2, hin, fun wd2 e4 => ?_⟩⟩⟩⟩⟩⟩
          rw [eF, eC, hc, pk_sub (by omega)] at e3
          rw [eF, eD, hc, pk_sub (by omega)] at e4
          subst e3 e4
          refine nm_r (nI_1 i) (ih (i + 1) (by omega) _ _ _ ?_)
          refine ry_G_put h hi12 (fun a ha => ⟨by rw [pk_un ha, pk_un ha], pk_un ha, pk_un ha⟩) ?_
          rw [tc, td, pk_us, pk_us, pk_us]
          exact ⟨rfl, fun _ => ⟨rfl, rfl⟩⟩
        · have tc : tb_c P F G K C k i = 0 := by unfold tb_c; rw [if_neg (by omega), if_neg zF, if_neg zG]
          have ns : ¬ yS (nI i).toNatClampNeg = nI k := by
            rw [eS]
            by_cases z3 : G i = 3
            · rw [z3, tb_g3]; exact fun e => tb_ne4 (b := k) (by omega) e.symm
            · rw [tb_gn z3]; exact fun e => zG ((nI_eq (by omega) (by omega)).mp e)
          have nx : ry_G P F G K C D k (i + 1) (upd wc i 0) wd (upd wp i (nI (P i))) := by
            refine ry_G_put h hi12 (fun a ha => ⟨pk_un ha, rfl, pk_un ha⟩) ?_
            rw [tc, pk_us]
            exact ⟨rfl, fun z => absurd z (Nat.lt_irrefl 0)⟩
          exact br_c (fun _ => ⟨hi2, br_f e0 ⟨hi2, br_f nF ⟨hi2, br_f e0 ⟨hi2, br_f ns (nm_r (nI_1 i) (ih (i + 1) (by omega) _ _ _ nx))⟩⟩⟩⟩)
            (fun _ => ⟨hi2, br_f e0 ⟨hi2, br_f nF ⟨hi2, br_f e0 ⟨hi2, br_f ns (nm_r (nI_1 i) (ih (i + 1) (by omega) _ _ _ nx))⟩⟩⟩⟩)
theorem fy_parts {post : SY → Prop} (TB : tb_ok m P F G K C D) (Y : ty_I m P F G K C D g yP yC yD yF yO yS) {k : Nat} (hk : k < 3)
    (H : ∀ wc' wd' wp', ru_T wc' wd' wp' (tb_c P F G K C k) (tb_d F G K D k) P → post (g, yP, yC, yD, yF, yO, yS, wc', wd', wp', wl, wu, wn, wr)) :
    wpY_parts post (g, yP, yC, yD, yF, yO, yS, wc, wd, wp, wl, wu, wn, wr) (nI k) :=
  nm_e ⟨13, ry_parts_l TB Y hk H 12 0 rfl _ _ _ ⟨fun a ha => absurd ha (Nat.not_lt_zero a), pk_us⟩⟩
theorem fy_takes {post : Int32 → SY → Prop} (TB : tb_ok m P F G K C D) (Y : ty_I m P F G K C D g yP yC yD yF yO yS) {k j x dd pp : Nat}
    (hk : k < m) (hj : j < 13) (a1 : x ≤ dd) (a2 : dd ≤ pp) (a3 : pp ≤ 60) (a4 : 60 % pp = 0)
    (h1 : tb_T P F G K C D j pp k x dd → ∀ wc wd wp wl wu wn wr, post 1 (g, yP, yC, yD, yF, yO, yS, wc, wd, wp, wl, wu, wn, wr))
    (h0 : ¬ tb_T P F G K C D j pp k x dd → ∀ wc wd wp wl wu wn wr, post 0 (g, yP, yC, yD, yF, yO, yS, wc, wd, wp, wl, wu, wn, wr)) :
    wpY_takes post (g, yP, yC, yD, yF, yO, yS, wc, wd, wp, wl, wu, wn, wr) (nI k) (nI j) (nI x) (nI dd) (nI pp) := by
  have hm := TB.1
  have hc : (nI j).toNatClampNeg = j := nI_clamp (by omega)
  have hin : vp_in (nI j) 13 := vp_in_nI hj (by omega)
  have V := tb_Vup (tb_V TB hk) (j := j) a1 a2 a3 a4
  unfold wpY_takes
  refine fy_parts TB Y (by omega) (fun ac1 ad1 ap1 T => ?_)
  refine ⟨hin, fun ac2 e1 => ⟨hin, fun ad2 e2 => ⟨hin, fun ap2 e3 => ?_⟩⟩⟩
  rw [hc] at e1 e2 e3
  subst e1 e2 e3
  exact ry_run V (ru_T_up T j x dd pp) (fun ok jl' jd' lr' rs' _ _ => ⟨fx_n1, h1 ok _ _ _ _ _ _ _⟩) (fun ok jl' jd' lr' rs' => ⟨fx_n0, h0 ok _ _ _ _ _ _ _⟩)
end
end
section
/-! the small methods of both programs -/
def sm_per (q : Nat) : Prop := 2 ≤ q ∧ q ≤ 60 ∧ 60 % q = 0
theorem sm_per_c (x : Int32) : (∃ q, sm_per q ∧ x = nI q) ∨ (∀ q, sm_per q → x ≠ nI q) := by
  by_cases h : ∃ q, sm_per q ∧ x = nI q
  · exact Or.inl h
  · exact Or.inr (fun q h1 h2 => h ⟨q, h1, h2⟩)
theorem sm_ix_c (x : Int32) (Q : Nat → Prop) : (∃ q, Q q ∧ x = nI q) ∨ (∀ q, Q q → x ≠ nI q) := by
  by_cases h : ∃ q, Q q ∧ x = nI q
  · exact Or.inl h
  · exact Or.inr (fun q h1 h2 => h ⟨q, h1, h2⟩)
theorem sm_rem {q : Nat} (h : 2 ≤ q) (h2 : q ≤ 60) : (60 - 60 / nI q * nI q) = nI (60 % q) :=
  pk_rem (a := 60) (d := q) (by omega) (by omega) (by omega)
theorem sm_modlt (q : Nat) : 60 % q ≤ 60 := Nat.mod_le _ _
section
variable {fc fn : Int32} {tp tf ts pc pd ac ad ap jl jd lr rs : Nat → Int32} {m : Nat} {P F G K C D : Nat → Nat}
variable {g : Int32} {yP yC yD yF yO yS wc wd wp wl wu wn wr : Nat → Int32}
theorem sm_perX1 {post : Int32 → Prop} {u : SX} {q : Nat} (h : sm_per q) (h1 : post 1) : wpX_isPeriod post u (nI q) := by
  obtain ⟨fc, fn, tp, tf, ts, pc, pd, ac, ad, ap, jl, jd, lr, rs⟩ := u
  obtain ⟨q1, q2, q3⟩ := h
  refine pk_lt q 2 (fun h => absurd h (by omega)) (fun _ => pk_lt 60 q (fun h => absurd h (by omega)) (fun _ => ⟨nI_ne0 (by omega) (by omega), ?_⟩))
  exact br_t (by rw [sm_rem q1 q2, q3]; rfl) h1
theorem sm_perY1 {post : Int32 → Prop} {u : SY} {q : Nat} (h : sm_per q) (h1 : post 0) : wpY_badPeriod post u (nI q) := by
  obtain ⟨g, yP, yC, yD, yF, yO, yS, wc, wd, wp, wl, wu, wn, wr⟩ := u
  obtain ⟨q1, q2, q3⟩ := h
  refine pk_lt q 2 (fun h => absurd h (by omega)) (fun _ => pk_le q 60 (fun _ => ⟨nI_ne0 (by omega) (by omega), ?_⟩) (fun h => absurd h (by omega)))
  exact br_t (by rw [sm_rem q1 q2, q3]; rfl) h1
theorem sm_per_n {x : Int32} (hn : ∀ q, sm_per q → x ≠ nI q) (h2 : ¬ x < 2) (h60 : ¬ 60 < x) : ¬ x = 0 ∧ ¬ (60 - 60 / x * x) = 0 := by
  have h0 : ¬ x < 0 := fun z => h2 (Int32.lt_trans z (by decide))
  obtain ⟨j, hj, rfl⟩ := nI_of h0
  have g2 : ¬ j < 2 := fun z => h2 (nI_lt (b := 2) z (by omega))
  have g60 : ¬ 60 < j := fun z => h60 (nI_lt (a := 60) z hj)
  refine ⟨nI_ne0 (by omega) hj, fun z => ?_⟩
  rw [sm_rem (by omega) (by omega)] at z
  have hm := sm_modlt j
  have z' : 60 % j = 0 := (nI_eq (b := 0) (by omega) (by omega)).mp z
  exact hn j ⟨by omega, by omega, z'⟩ rfl
theorem sm_perX0 {post : Int32 → Prop} {u : SX} {x : Int32} (hn : ∀ q, sm_per q → x ≠ nI q) (h0 : post 0) : wpX_isPeriod post u x := by
  obtain ⟨fc, fn, tp, tf, ts, pc, pd, ac, ad, ap, jl, jd, lr, rs⟩ := u
  refine br_c (fun _ => h0) (fun h2 => br_c (fun _ => h0) (fun h60 => ?_))
  obtain ⟨a, b⟩ := sm_per_n hn h2 h60
  exact ⟨a, br_f b h0⟩
theorem sm_perY0 {post : Int32 → Prop} {u : SY} {x : Int32} (hn : ∀ q, sm_per q → x ≠ nI q) (h0 : post 1) : wpY_badPeriod post u x := by
  obtain ⟨g, yP, yC, yD, yF, yO, yS, wc, wd, wp, wl, wu, wn, wr⟩ := u
  refine br_c (fun _ => h0) (fun h2 => br_c (fun h60 => ?_) (fun _ => h0))
  obtain ⟨a, b⟩ := sm_per_n hn h2 (Int32.not_lt.mpr h60)
  exact ⟨a, br_f b h0⟩
/-! is there such a task -/
theorem sm_tkX1 {post : Int32 → Prop} (X : tx_I m P F G K C D fc fn tp tf ts pc pd) {i : Nat} (hi : i < 12) (hp : 0 < P i) (hb : P i ≤ 60) (h1 : post 1) :
    wpX_isTask post (fc, fn, tp, tf, ts, pc, pd, ac, ad, ap, jl, jd, lr, rs) (nI i) := by
  have hc : (nI i).toNatClampNeg = i := nI_clamp (by omega)
  have e : tp (nI i).toNatClampNeg = nI (P i) := by rw [hc]; exact (X.2.2.1 i (by omega)).1
  exact br_f (nI_pos (by omega)) (pk_le 12 i (fun h => absurd h (by omega)) (fun _ => ⟨vp_in_nI (by omega) (by omega), pk_le (P i) 0 (fun h => absurd h (by omega)) (fun _ => h1) e⟩))
theorem sm_tkY1 {post : Int32 → Prop} (Y : ty_I m P F G K C D g yP yC yD yF yO yS) {i : Nat} (hi : i < 12) (hp : 0 < P i) (hb : P i ≤ 60) (h1 : post 0) :
    wpY_none post (g, yP, yC, yD, yF, yO, yS, wc, wd, wp, wl, wu, wn, wr) (nI i) := by
  have hc : (nI i).toNatClampNeg = i := nI_clamp (by omega)
  have e : yP (nI i).toNatClampNeg = nI (P i) := by rw [hc]; exact (Y.2 i hi).1
  exact br_f (nI_pos (by omega)) (pk_lt 11 i (fun h => absurd h (by omega)) (fun _ => ⟨vp_in_nI (by omega) (by omega), pk_eq (P i) 0 (fun h => absurd h (by omega)) (fun _ => h1) e⟩))
theorem sm_tkX0 {post : Int32 → Prop} (X : tx_I m P F G K C D fc fn tp tf ts pc pd) {x : Int32} (hn : ∀ q, (q < 12 ∧ 0 < P q) → x ≠ nI q) (h0 : post 0) :
    wpX_isTask post (fc, fn, tp, tf, ts, pc, pd, ac, ad, ap, jl, jd, lr, rs) x := by
  refine br_c (fun _ => h0) (fun h => br_c (fun _ => h0) (fun h12 => ?_))
  obtain ⟨j, hj, rfl⟩ := nI_of h
  have j12 : j < 12 := by
    rcases Nat.lt_or_ge j 12 with z | z
    · exact z
    · exact absurd (nI_le (a := 12) z hj) h12
  have hc : (nI j).toNatClampNeg = j := nI_clamp (by omega)
  have hp : P j = 0 := by
    rcases Nat.eq_zero_or_pos (P j) with z | z
    · exact z
    · exact absurd rfl (hn j ⟨j12, z⟩)
  have e : tp (nI j).toNatClampNeg = nI (P j) := by rw [hc]; exact (X.2.2.1 j (by omega)).1
  exact ⟨vp_in_nI (by omega) (by omega), pk_le (P j) 0 (fun _ => h0) (fun h => absurd h (by omega)) e⟩
theorem sm_tkY0 {post : Int32 → Prop} (Y : ty_I m P F G K C D g yP yC yD yF yO yS) {x : Int32} (hn : ∀ q, (q < 12 ∧ 0 < P q) → x ≠ nI q) (h0 : post 1) :
    wpY_none post (g, yP, yC, yD, yF, yO, yS, wc, wd, wp, wl, wu, wn, wr) x := by
  refine br_c (fun _ => h0) (fun h => br_c (fun _ => h0) (fun h12 => ?_))
  obtain ⟨j, hj, rfl⟩ := nI_of h
  have j12 : j < 12 := by
    rcases Nat.lt_or_ge 11 j with z | z
    · exact absurd (nI_lt (a := 11) z hj) h12
    · omega
  have hc : (nI j).toNatClampNeg = j := nI_clamp (by omega)
  have hp : P j = 0 := by
    rcases Nat.eq_zero_or_pos (P j) with z | z
    · exact z
    · exact absurd rfl (hn j ⟨j12, z⟩)
  have e : yP (nI j).toNatClampNeg = nI (P j) := by rw [hc]; exact (Y.2 j j12).1
  exact ⟨vp_in_nI (by omega) (by omega), pk_eq (P j) 0 (fun _ => h0) (fun h => absurd hp h) e⟩
/-! is there such a core -/
theorem sm_crX1 {post : Int32 → Prop} (X : tx_I m P F G K C D fc fn tp tf ts pc pd) (hm : m ≤ 3) {k : Nat} (hk : k < m) (h1 : post 1) :
    wpX_isCore post (fc, fn, tp, tf, ts, pc, pd, ac, ad, ap, jl, jd, lr, rs) (nI k) :=
  br_f (nI_pos (by omega)) (pk_le m k (fun h => absurd h (by omega)) (fun _ => h1) X.1)
theorem sm_crY1 {post : Int32 → Prop} (Y : ty_I m P F G K C D g yP yC yD yF yO yS) (hm : m ≤ 3) {k : Nat} (hk : k < m) (h1 : post 0) :
    wpY_badCore post (g, yP, yC, yD, yF, yO, yS, wc, wd, wp, wl, wu, wn, wr) (nI k) :=
  br_f (nI_pos (by omega)) (pk_lt k m (fun _ => h1) (fun h => absurd h (by omega)) rfl Y.1)
theorem sm_crX0 {post : Int32 → Prop} (X : tx_I m P F G K C D fc fn tp tf ts pc pd) (hm : m ≤ 3) {x : Int32} (hn : ∀ q, q < m → x ≠ nI q) (h0 : post 0) :
    wpX_isCore post (fc, fn, tp, tf, ts, pc, pd, ac, ad, ap, jl, jd, lr, rs) x := by
  refine br_c (fun _ => h0) (fun h => br_c (fun _ => h0) (fun h12 => ?_))
  obtain ⟨j, hj, rfl⟩ := nI_of h
  rw [X.1, nI_leI (by omega) hj] at h12
  exact absurd rfl (hn j (by omega))
theorem sm_crY0 {post : Int32 → Prop} (Y : ty_I m P F G K C D g yP yC yD yF yO yS) (hm : m ≤ 3) {x : Int32} (hn : ∀ q, q < m → x ≠ nI q) (h0 : post 1) :
    wpY_badCore post (g, yP, yC, yD, yF, yO, yS, wc, wd, wp, wl, wu, wn, wr) x := by
  refine br_c (fun _ => h0) (fun h => br_c (fun h12 => ?_) (fun _ => h0))
  obtain ⟨j, hj, rfl⟩ := nI_of h
  rw [Y.1, nI_ltI hj (by omega)] at h12
  exact absurd rfl (hn j h12)
/-! the free id, and how many -/
theorem sm_frX {post : Int32 → Prop} (X : tx_I m P F G K C D fc fn tp tf ts pc pd) (hb : ∀ i, P i ≤ 60) {j : Nat} (hf : tb_fr P j) (h : post (nI j)) :
    ∀ e k, k + e = 12 → k ≤ j → wX_smallestFreeId_2 post fc fn tp tf ts pc pd ac ad ap jl jd lr rs (e + 1) (nI k) := by
  obtain ⟨f1, f2, f3⟩ := hf
  intro e
  induction e with
  | zero =>
    intro k hk hj
    have e1 : k = 12 := by omega
    have e2 : j = 12 := by omega
    subst e1 e2
    exact pk_le 12 12 (fun _ => h) (fun h => absurd h (by omega))
  | succ e ih =>
    intro k hk hj
    have hc : (nI k).toNatClampNeg = k := nI_clamp (by omega)
    have hbk := hb k
    have eP : tp (nI k).toNatClampNeg = nI (P k) := by rw [hc]; exact (X.2.2.1 k (by omega)).1
    refine pk_le 12 k (fun h => absurd h (by omega)) (fun _ => ⟨vp_in_nI (by omega) (by omega), pk_eq (P k) 0 (fun z => ?_) (fun z => ?_) eP⟩)
    · have e1 : k = j := by
        rcases Nat.lt_or_ge k j with y | y
        · have := f2 k y; omega
        · omega
      subst e1
      exact h
    · refine nm_r (nI_1 k) (ih (k + 1) (by omega) ?_)
      rcases Nat.lt_or_ge k j with y | y
      · exact y
      · have e1 : k = j := by omega
        subst e1
        exact absurd (f3 (by omega)) z
theorem sm_frXw {post : Int32 → Prop} (X : tx_I m P F G K C D fc fn tp tf ts pc pd) (hb : ∀ i, P i ≤ 60) {j : Nat} (hf : tb_fr P j) (h : post (nI j)) :
    wpX_smallestFreeId post (fc, fn, tp, tf, ts, pc, pd, ac, ad, ap, jl, jd, lr, rs) := ⟨13, sm_frX X hb hf h 12 0 rfl (Nat.zero_le _)⟩
theorem sm_frY {post : Int32 → Prop} (Y : ty_I m P F G K C D g yP yC yD yF yO yS) (hb : ∀ i, P i ≤ 60) {j : Nat} (hf : tb_fr P j) (h : post (nI j)) :
    ∀ e k, k + e = 12 → k ≤ j → wY_freeId_2 post g yP yC yD yF yO yS wc wd wp wl wu wn wr (e + 1) (nI k) := by
  obtain ⟨f1, f2, f3⟩ := hf
  intro e
  induction e with
  | zero =>
    intro k hk hj
    have e1 : k = 12 := by omega
    have e2 : j = 12 := by omega
    subst e1 e2
    exact pk_le 12 12 (fun _ => h) (fun h => absurd h (by omega))
  | succ e ih =>
    intro k hk hj
    have hc : (nI k).toNatClampNeg = k := nI_clamp (by omega)
    have hbk := hb k
    have eP : yP (nI k).toNatClampNeg = nI (P k) := by rw [hc]; exact (Y.2 k (by omega)).1
    refine pk_le 12 k (fun h => absurd h (by omega)) (fun _ => ⟨vp_in_nI (by omega) (by omega), pk_eq (P k) 0 (fun z => ?_) (fun z => ?_) eP⟩)
    · have e1 : k = j := by
        rcases Nat.lt_or_ge k j with y | y
        · have := f2 k y; omega
        · omega
      subst e1
      exact h
    · refine nm_r (nI_1 k) (ih (k + 1) (by omega) ?_)
      rcases Nat.lt_or_ge k j with y | y
      · exact y
      · have e1 : k = j := by omega
        subst e1
        exact absurd (f3 (by omega)) z
theorem sm_frYw {post : Int32 → Prop} (Y : ty_I m P F G K C D g yP yC yD yF yO yS) (hb : ∀ i, P i ≤ 60) {j : Nat} (hf : tb_fr P j) (h : post (nI j)) :
    wpY_freeId post (g, yP, yC, yD, yF, yO, yS, wc, wd, wp, wl, wu, wn, wr) := ⟨13, sm_frY Y hb hf h 12 0 rfl (Nat.zero_le _)⟩
theorem sm_cnt {post : Int32 → Prop} (hY : ∀ i, i < 12 → yP i = nI (P i)) (hb : ∀ i, P i ≤ 60) (h : post (nI (tb_n P 12))) :
    ∀ e k, k + e = 12 → wY_count_4 post g yP yC yD yF yO yS wc wd wp wl wu wn wr (e + 1) (nI (tb_n P k)) (nI k) := by
  intro e
  induction e with
  | zero =>
    intro k hk
    have e1 : k = 12 := by omega
    subst e1
    exact pk_le 12 12 (fun _ => h) (fun h => absurd h (by omega))
  | succ e ih =>
    intro k hk
    have hc : (nI k).toNatClampNeg = k := nI_clamp (by omega)
    have hbk := hb k
    have eP : yP (nI k).toNatClampNeg = nI (P k) := by rw [hc]; exact hY k (by omega)
    have nx := ih (k + 1) (by omega)
    refine pk_le 12 k (fun h => absurd h (by omega)) (fun _ => ⟨vp_in_nI (by omega) (by omega), pk_eq (P k) 0 (fun z => ?_) (fun z => ?_) eP⟩)
    · have e1 : tb_n P (k + 1) = tb_n P k := if_pos z
      rw [e1] at nx
      exact nm_r (nI_1 k) nx
    · have e1 : tb_n P (k + 1) = tb_n P k + 1 := if_neg z
      rw [e1] at nx
      exact nm_r (nI_1 _) (nm_r (nI_1 k) nx)
theorem sm_cntw {post : Int32 → Prop} (hY : ∀ i, i < 12 → yP i = nI (P i)) (hb : ∀ i, P i ≤ 60) (h : post (nI (tb_n P 12))) :
    wpY_count post (g, yP, yC, yD, yF, yO, yS, wc, wd, wp, wl, wu, wn, wr) := ⟨13, sm_cnt hY hb h 12 0 rfl⟩
theorem sm_Pb (TB : tb_ok m P F G K C D) : ∀ i, P i ≤ 60 := by
  intro i
  rcases Nat.eq_zero_or_pos (P i) with z | z
  · omega
  · exact (TB.2.2.1 i z).1
theorem sm_cb (TB : tb_ok m P F G K C D) {k : Nat} (i : Nat) : tb_c P F G K C k i ≤ 60 := by
  unfold tb_c
  rcases Nat.eq_zero_or_pos (P i) with z | z
  · rw [if_pos z]; omega
  · obtain ⟨r1, r2, r3, r4, r5, r6, r7⟩ := TB.2.2.1 i z
    rw [if_neg (by omega)]
    split
    · omega
    · split <;> omega
/-! what stands in a row -/
theorem fx_setTask {post : SX → Prop} {i : Nat} (hi : i < 13) {q a b : Int32}
    (H : post (fc, fn, upd tp i q, upd tf i a, upd ts i b, pc, pd, ac, ad, ap, jl, jd, lr, rs)) :
    wpX_setTask post (fc, fn, tp, tf, ts, pc, pd, ac, ad, ap, jl, jd, lr, rs) (nI i) q a b := by
  have hc : (nI i).toNatClampNeg = i := nI_clamp (by omega)
  have hin : vp_in (nI i) 13 := vp_in_nI (by omega) (by omega)
  refine ⟨hin, fun a1 e1 => ⟨hin, fun a2 e2 => ⟨hin, fun a3 e3 => ?_⟩⟩⟩
  rw [hc] at e1 e2 e3
  subst e1 e2 e3
  exact H
theorem fx_setPart {post : SX → Prop} {k i : Nat} (hk : k < 3) (hi : i < 13) {x y : Int32}
    (H : post (fc, fn, tp, tf, ts, upd pc (k * 13 + i) x, upd pd (k * 13 + i) y, ac, ad, ap, jl, jd, lr, rs)) :
    wpX_setPart post (fc, fn, tp, tf, ts, pc, pd, ac, ad, ap, jl, jd, lr, rs) (nI k) (nI i) x y := by
  have hx : nI k * 13 + nI i = nI (k * 13 + i) := by rw [show (13 : Int32) = nI 13 from rfl, pk_mul, nI_add]
  have hix : vp_in (nI k * 13 + nI i) 39 := pk_in (k * 13 + i) 39 (by omega) hx
  have hcx : (nI k * 13 + nI i).toNatClampNeg = k * 13 + i := pk_cl (k * 13 + i) hx
  refine ⟨hix, fun a1 e1 => ⟨hix, fun a2 e2 => ?_⟩⟩
  rw [hcx] at e1 e2
  subst e1 e2
  exact H
end
end
section
/-- the relation: one table behind both states -/
def i_Rel (_ : Nat) (u : SX) (v : SY) : Prop :=
  ∃ (m : Nat) (P F G K C D : Nat → Nat), tb_ok m P F G K C D ∧
    tx_I m P F G K C D u.1 u.2.1 u.2.2.1 u.2.2.2.1 u.2.2.2.2.1 u.2.2.2.2.2.1 u.2.2.2.2.2.2.1 ∧
    ty_I m P F G K C D v.1 v.2.1 v.2.2.1 v.2.2.2.1 v.2.2.2.2.1 v.2.2.2.2.2.1 v.2.2.2.2.2.2.1
theorem i_up {k : Nat} {u : SX} {v : SY} (h : i_Rel k u v) : i_Rel (k + 4) u v := h
section
variable {fc fn : Int32} {tp tf ts pc pd ac ad ap jl jd lr rs : Nat → Int32} {m : Nat} {P F G K C D : Nat → Nat}
variable {g : Int32} {yP yC yD yF yO yS wc wd wp wl wu wn wr : Nat → Int32}
theorem ir_mk {n : Nat} (TB : tb_ok m P F G K C D) (X : tx_I m P F G K C D fc fn tp tf ts pc pd) (Y : ty_I m P F G K C D g yP yC yD yF yO yS) :
    i_Rel n (fc, fn, tp, tf, ts, pc, pd, ac, ad, ap, jl, jd, lr, rs) (g, yP, yC, yD, yF, yO, yS, wc, wd, wp, wl, wu, wn, wr) :=
  ⟨m, P, F, G, K, C, D, TB, X, Y⟩
end
theorem ir_newX (m : Nat) : tx_I m (fun _ => 0) (fun _ => 0) (fun _ => 0) (fun _ => 0) (fun _ => 0) (fun _ => 0) (nI m) 0 (fun _ => 0) (fun _ => 0) (fun _ => 0) (fun _ => 0) (fun _ => 0) := by
  refine ⟨rfl, rfl, fun i _ => ⟨rfl, fun h => absurd h (Nat.lt_irrefl 0)⟩, fun k i _ _ => ?_⟩
  have e : tb_c (fun _ => 0) (fun _ => 0) (fun _ => 0) (fun _ => 0) (fun _ => 0) k i = 0 := if_pos rfl
  rw [e]
  exact ⟨rfl, fun h => absurd h (Nat.lt_irrefl 0)⟩
theorem ir_newY (m : Nat) : ty_I m (fun _ => 0) (fun _ => 0) (fun _ => 0) (fun _ => 0) (fun _ => 0) (fun _ => 0) (nI m) (fun _ => 0) (fun _ => 0) (fun _ => 0) (fun _ => 0) (fun _ => 0) (fun _ => 0) :=
  ⟨rfl, fun i _ => ⟨rfl, fun h => absurd h (Nat.lt_irrefl 0)⟩⟩
theorem i_vc0 (k0 : Int32) : wpX_init (fun u => wpY_init (fun v => i_Rel 1 u v) k0) k0 := by
  have F : ∀ m, 1 ≤ m → m ≤ 3 → i_Rel 1 (nI m, 0, (fun _ => 0), (fun _ => 0), (fun _ => 0), (fun _ => 0), (fun _ => 0), (fun _ => 0), (fun _ => 0), (fun _ => 0), (fun _ => 0), (fun _ => 0), (fun _ => 0), (fun _ => 0))
      (nI m, (fun _ => 0), (fun _ => 0), (fun _ => 0), (fun _ => 0), (fun _ => 0), (fun _ => 0), (fun _ => 0), (fun _ => 0), (fun _ => 0), (fun _ => 0), (fun _ => 0), (fun _ => 0), (fun _ => 0)) :=
    fun m h1 h3 => ir_mk (tb_new h1 h3 _ _ _ _ _) (ir_newX m) (ir_newY m)
  refine br_c (fun h1 => br_c (fun h3 => ?_) (fun h3 => ?_)) (fun h1 => ?_)
  · refine br_t h1 (br_t h3 ?_)
    have h0 : ¬ k0 < 0 := fun z => Int32.lt_irrefl (Int32.lt_of_lt_of_le z (Int32.le_trans (by decide) h1))
    obtain ⟨j, hj, rfl⟩ := nI_of h0
    have j1 : 1 ≤ j := (nI_leI (a := 1) (by omega) hj).mp h1
    have j3 : j ≤ 3 := (nI_leI (b := 3) hj (by omega)).mp h3
    exact F j j1 j3
  · exact br_t h1 (br_f h3 (F 3 (by omega) (by omega)))
  · exact br_f h1 (br_t (by decide) (F 1 (by omega) (by omega)))
theorem i_vc_core {k : Nat} {u : SX} {v : SY} (I : i_Rel k u v) (hk : k + 4 ≤ 2049) (v1 : Int32) : wpX_core (fun r => wpY_core (fun r' => r' = r ∧ i_Rel (k + 4) u v) v v1) u v1 := by
  have I' := i_up I
  obtain ⟨fc, fn, tp, tf, ts, pc, pd, ac, ad, ap, jl, jd, lr, rs⟩ := u
  obtain ⟨g, yP, yC, yD, yF, yO, yS, wc, wd, wp, wl, wu, wn, wr⟩ := v
  obtain ⟨m, P, F, G, K, C, D, TB, X, Y⟩ := I
  unfold wpX_core wpY_core
  rcases sm_ix_c v1 (fun q => q < 12 ∧ 0 < P q) with ⟨i, ⟨hi, hp⟩, rfl⟩ | hn
  · have hc : (nI i).toNatClampNeg = i := nI_clamp (by omega)
    have hb := sm_Pb TB i
    refine sm_tkX1 X hi hp hb (br_f (by decide) ⟨vp_in_nI (by omega) (by omega), ?_⟩)
    refine sm_tkY1 Y hi hp hb (br_t rfl ⟨vp_in_nI (by omega) (by omega), ?_, I'⟩)
    rw [hc]
    exact ((Y.2 i hi).2 hp).1.trans ((X.2.2.1 i (by omega)).2 hp).1.symm
  · exact sm_tkX0 X hn (br_t rfl (sm_tkY0 Y hn (br_f (by decide) ⟨rfl, I'⟩)))
theorem i_vc_secondCore {k : Nat} {u : SX} {v : SY} (I : i_Rel k u v) (hk : k + 4 ≤ 2049) (v1 : Int32) : wpX_secondCore (fun r => wpY_secondCore (fun r' => r' = r ∧ i_Rel (k + 4) u v) v v1) u v1 := by
  have I' := i_up I
  obtain ⟨fc, fn, tp, tf, ts, pc, pd, ac, ad, ap, jl, jd, lr, rs⟩ := u
  obtain ⟨g, yP, yC, yD, yF, yO, yS, wc, wd, wp, wl, wu, wn, wr⟩ := v
  obtain ⟨m, P, F, G, K, C, D, TB, X, Y⟩ := I
  unfold wpX_secondCore wpY_secondCore
  rcases sm_ix_c v1 (fun q => q < 12 ∧ 0 < P q) with ⟨i, ⟨hi, hp⟩, rfl⟩ | hn
  · have hc : (nI i).toNatClampNeg = i := nI_clamp (by omega)
    have hb := sm_Pb TB i
    refine sm_tkX1 X hi hp hb (br_f (by decide) ⟨vp_in_nI (by omega) (by omega), ?_⟩)
    refine sm_tkY1 Y hi hp hb (br_t rfl ⟨vp_in_nI (by omega) (by omega), ?_, I'⟩)
    rw [hc]
    exact ((Y.2 i hi).2 hp).2.1.trans ((X.2.2.1 i (by omega)).2 hp).2.symm
  · exact sm_tkX0 X hn (br_t rfl (sm_tkY0 Y hn (br_f (by decide) ⟨rfl, I'⟩)))
theorem i_vc_firstCost {k : Nat} {u : SX} {v : SY} (I : i_Rel k u v) (hk : k + 4 ≤ 2049) (v1 : Int32) : wpX_firstCost (fun r => wpY_firstCost (fun r' => r' = r ∧ i_Rel (k + 4) u v) v v1) u v1 := by
  have I' := i_up I
  obtain ⟨fc, fn, tp, tf, ts, pc, pd, ac, ad, ap, jl, jd, lr, rs⟩ := u
  obtain ⟨g, yP, yC, yD, yF, yO, yS, wc, wd, wp, wl, wu, wn, wr⟩ := v
  obtain ⟨m, P, F, G, K, C, D, TB, X, Y⟩ := I
  have hm := TB.1
  unfold wpX_firstCost wpY_firstCost
  rcases sm_ix_c v1 (fun q => q < 12 ∧ 0 < P q) with ⟨i, ⟨hi, hp⟩, rfl⟩ | hn
  · have hc : (nI i).toNatClampNeg = i := nI_clamp (by omega)
    have hb := sm_Pb TB i
    have hF := (TB.2.2.1 i hp).2.2.1
    have eF : tf (nI i).toNatClampNeg = nI (F i) := by rw [hc]; exact ((X.2.2.1 i (by omega)).2 hp).1
    have hx : tf (nI i).toNatClampNeg * 13 + nI i = nI (F i * 13 + i) := by rw [eF, show (13 : Int32) = nI 13 from rfl, pk_mul, nI_add]
    refine sm_tkX1 X hi hp hb (br_f (by decide) ⟨vp_in_nI (by omega) (by omega), pk_in (F i * 13 + i) 39 (by omega) hx, ?_⟩)
    refine sm_tkY1 Y hi hp hb (br_t rfl ⟨vp_in_nI (by omega) (by omega), ?_, I'⟩)
    have hcx : (tf (nI i).toNatClampNeg * 13 + nI i).toNatClampNeg = F i * 13 + i := pk_cl (F i * 13 + i) hx
    have tc : tb_c P F G K C (F i) i = K i := by unfold tb_c; rw [if_neg (by omega), if_pos rfl]
    have e1 := (X.2.2.2 (F i) i (by omega) (by omega)).1
    rw [tc] at e1
    rw [hcx, hc]
    exact ((Y.2 i hi).2 hp).2.2.1.trans e1.symm
  · exact sm_tkX0 X hn (br_t rfl (sm_tkY0 Y hn (br_f (by decide) ⟨rfl, I'⟩)))
end
section
/-! remove, load, running, response -/
section
variable {fc fn : Int32} {tp tf ts pc pd ac ad ap jl jd lr rs : Nat → Int32} {m : Nat} {P F G K C D : Nat → Nat}
variable {g : Int32} {yP yC yD yF yO yS wc wd wp wl wu wn wr : Nat → Int32}
theorem rm_l {post : Int32 → SX → Prop} {i : Nat} (hi : i < 13)
    (H : ∀ pc' pd', (∀ k a, k < 3 → a < 13 → pc' (k * 13 + a) = (if a = i then 0 else pc (k * 13 + a)) ∧ (a ≠ i → pd' (k * 13 + a) = pd (k * 13 + a))) →
      post (fn - 1) (fc, fn - 1, upd tp i 0, tf, ts, pc', pd', ac, ad, ap, jl, jd, lr, rs)) :
    ∀ e kk, kk + e = 3 → ∀ pc' pd', (∀ k a, k < 3 → a < 13 → pc' (k * 13 + a) = (if a = i ∧ k < kk then 0 else pc (k * 13 + a)) ∧ (a ≠ i → pd' (k * 13 + a) = pd (k * 13 + a))) →
      wX_remove_13 post (nI i) (e + 1) (nI kk) fc fn tp tf ts pc' pd' ac ad ap jl jd lr rs := by
  intro e
  have hc : (nI i).toNatClampNeg = i := nI_clamp (by omega)
  induction e with
  | zero =>
    intro kk hk pc' pd' h
    have e1 : kk = 3 := by omega
    subst e1
    refine pk_le 3 3 (fun _ => ⟨vp_in_nI hi (by omega), fun tp' et => nm_e ?_⟩) (fun h => absurd h (by omega))
    rw [hc] at et
    subst et
    refine H pc' pd' (fun k a h1 h2 => ?_)
    obtain ⟨g1, g2⟩ := h k a h1 h2
    refine ⟨?_, g2⟩
    rw [g1]
    by_cases z : a = i
    · rw [if_pos z, if_pos ⟨z, h1⟩]
    · rw [if_neg z, if_neg (fun w => z w.1)]
  | succ e ih =>
    intro kk hk pc' pd' h
    refine pk_le 3 kk (fun h => absurd h (by omega)) (fun _ => fx_setPart (by omega) hi (nm_r (nI_1 kk) (ih (kk + 1) (by omega) _ _ (fun k a h1 h2 => ?_))))
    obtain ⟨g1, g2⟩ := h k a h1 h2
    constructor
    · by_cases z : a = i ∧ k = kk
      · obtain ⟨z1, z2⟩ := z
        subst z1 z2
        rw [pk_us, if_pos ⟨rfl, by omega⟩]
      · rw [pk_un (by omega), g1]
        by_cases y : a = i ∧ k < kk
        · rw [if_pos y, if_pos ⟨y.1, by omega⟩]
        · rw [if_neg y, if_neg (fun w => by omega)]
    · intro z
      rw [pk_un (by omega)]
      exact g2 z
theorem ld_X {post : Int32 → Prop} (TB : tb_ok m P F G K C D) (X : tx_I m P F G K C D fc fn tp tf ts pc pd) {k : Nat} (hk : k < 3)
    (h : post (nI (tb_ld P (tb_c P F G K C k) 12))) :
    ∀ e i, i + e = 12 → wX_load_15 post (nI k) fc fn tp tf ts pc pd ac ad ap jl jd lr rs (e + 1) (nI (tb_ld P (tb_c P F G K C k) i)) (nI i) := by
  intro e
  induction e with
  | zero =>
    intro i hi
    have e1 : i = 12 := by omega
    subst e1
    exact pk_le 12 12 (fun _ => h) (fun h => absurd h (by omega))
  | succ e ih =>
    intro i hi
    have hc : (nI i).toNatClampNeg = i := nI_clamp (by omega)
    have hin : vp_in (nI i) 13 := vp_in_nI (by omega) (by omega)
    have hb := sm_Pb TB i
    have eP : tp (nI i).toNatClampNeg = nI (P i) := by rw [hc]; exact (X.2.2.1 i (by omega)).1
    have nx := ih (i + 1) (by omega)
    have hx : nI k * 13 + nI i = nI (k * 13 + i) := by rw [show (13 : Int32) = nI 13 from rfl, pk_mul, nI_add]
    refine pk_le 12 i (fun h => absurd h (by omega)) (fun _ => ⟨hin, pk_le (P i) 0 (fun z => ?_) (fun z => ?_) eP⟩)
    · have e1 : tb_ld P (tb_c P F G K C k) (i + 1) = tb_ld P (tb_c P F G K C k) i := if_pos (by omega)
      rw [e1] at nx
      exact nm_r (nI_1 i) nx
    · have e1 : tb_ld P (tb_c P F G K C k) (i + 1) = tb_ld P (tb_c P F G K C k) i + tb_c P F G K C k i * (60 / P i) := if_neg (by omega)
      rw [e1] at nx
      refine ⟨pk_in (k * 13 + i) 39 (by omega) hx, hin, by rw [eP]; exact nI_ne0 z (by omega), nm_r ?_ (nm_r (nI_1 i) nx)⟩
      rw [eP, pk_cl (k * 13 + i) hx, (X.2.2.2 k i hk (by omega)).1, show (60 : Int32) = nI 60 from rfl, pk_div (by omega) z (by omega), pk_mul, nI_add]
theorem ld_Y {post : Int32 → SY → Prop} (TB : tb_ok m P F G K C D) {k : Nat} (T : ru_T wc wd wp (tb_c P F G K C k) (tb_d F G K D k) P)
    (h : post (nI (tb_ld P (tb_c P F G K C k) 12)) (g, yP, yC, yD, yF, yO, yS, wc, wd, wp, wl, wu, wn, wr)) :
    ∀ e i, i + e = 12 → wY_load_20 post g yP yC yD yF yO yS wc wd wp wl wu wn wr (e + 1) (nI (tb_ld P (tb_c P F G K C k) i)) (nI i) := by
  intro e
  induction e with
  | zero =>
    intro i hi
    have e1 : i = 12 := by omega
    subst e1
    exact pk_le 12 12 (fun _ => h) (fun h => absurd h (by omega))
  | succ e ih =>
    intro i hi
    have hc : (nI i).toNatClampNeg = i := nI_clamp (by omega)
    have hin : vp_in (nI i) 13 := vp_in_nI (by omega) (by omega)
    have hb := sm_Pb TB i
    have hcb := sm_cb TB (k := k) i
    have eC : wc (nI i).toNatClampNeg = nI (tb_c P F G K C k i) := by rw [hc]; exact (T i (by omega)).1
    have nx := ih (i + 1) (by omega)
    refine pk_le 12 i (fun h => absurd h (by omega)) (fun _ => ⟨hin, pk_le (tb_c P F G K C k i) 0 (fun z => ?_) (fun z => ?_) eC⟩)
    · have e1 : tb_ld P (tb_c P F G K C k) (i + 1) = tb_ld P (tb_c P F G K C k) i := by
        show (if P i = 0 then _ else _) = _
        have z' : tb_c P F G K C k i = 0 := by omega
        rw [z', Nat.zero_mul, Nat.add_zero]
        split <;> rfl
      rw [e1] at nx
      exact nm_r (nI_1 i) nx
    · have hp := tb_c_pos z
      have eP : wp (nI i).toNatClampNeg = nI (P i) := by rw [hc]; exact ((T i (by omega)).2 z).2
      have e1 : tb_ld P (tb_c P F G K C k) (i + 1) = tb_ld P (tb_c P F G K C k) i + tb_c P F G K C k i * (60 / P i) := if_neg (by omega)
      rw [e1] at nx
      refine ⟨hin, pk_le (P i) 0 (fun h => absurd h (by omega)) (fun _ => ⟨hin, hin, by rw [eP]; exact nI_ne0 hp (by omega), nm_r ?_ (nm_r (nI_1 i) nx)⟩) eP⟩
      rw [eP, eC, show (60 : Int32) = nI 60 from rfl, pk_div (by omega) hp (by omega), pk_mul, nI_add]
end
theorem rm_X {m : Nat} {P F G K C D : Nat → Nat} {fc fn : Int32} {tp tf ts pc pd pc' pd' : Nat → Int32} (X : tx_I m P F G K C D fc fn tp tf ts pc pd) {i : Nat} (hi : i < 12) (hp : 0 < P i)
    (h : ∀ k a, k < 3 → a < 13 → pc' (k * 13 + a) = (if a = i then 0 else pc (k * 13 + a)) ∧ (a ≠ i → pd' (k * 13 + a) = pd (k * 13 + a))) :
    fn - 1 = nI (tb_n (ed_up P i 0) 12) ∧ tx_I m (ed_up P i 0) F G K C D fc (fn - 1) (upd tp i 0) tf ts pc' pd' := by
  obtain ⟨x1, x2, x3, x4⟩ := X
  have hs := tb_n_sub hp hi
  have e1 : fn - 1 = nI (tb_n (ed_up P i 0) 12) := by rw [x2, ← hs, nI_pred]
  refine ⟨e1, x1, e1, fun a ha => ?_, fun k a hk ha => ?_⟩
  · by_cases z : a = i
    · subst z
      rw [pk_us, ed_up_s]
      exact ⟨rfl, fun h => absurd h (Nat.lt_irrefl 0)⟩
    · rw [pk_un z, ed_up_n z]
      exact x3 a ha
  · obtain ⟨g1, g2⟩ := h k a hk ha
    by_cases z : a = i
    · subst z
      have t0 : tb_c (ed_up P a 0) F G K C k a = 0 := if_pos ed_up_s
      rw [t0, g1, if_pos rfl]
      exact ⟨rfl, fun h => absurd h (Nat.lt_irrefl 0)⟩
    · have t0 : tb_c (ed_up P i 0) F G K C k a = tb_c P F G K C k a := by unfold tb_c; rw [ed_up_n z]
      rw [t0, g1, if_neg z, g2 z]
      exact x4 k a hk ha
theorem rm_Y {m : Nat} {P F G K C D : Nat → Nat} {g : Int32} {yP yC yD yF yO yS : Nat → Int32} (Y : ty_I m P F G K C D g yP yC yD yF yO yS) (i : Nat) :
    ty_I m (ed_up P i 0) F G K C D g (upd yP i 0) yC yD yF yO yS := by
  refine ⟨Y.1, fun a ha => ?_⟩
  by_cases z : a = i
  · subst z
    rw [pk_us, ed_up_s]
    exact ⟨rfl, fun h => absurd h (Nat.lt_irrefl 0)⟩
  · rw [pk_un z, ed_up_n z]
    exact Y.2 a ha
theorem i_vc_remove {k : Nat} {u : SX} {v : SY} (I : i_Rel k u v) (hk : k + 4 ≤ 2049) (v1 : Int32) : wpX_remove (fun r u' => wpY_remove (fun r' v' => r' = r ∧ i_Rel (k + 4) u' v') v v1) u v1 := by
  have I' := i_up I
  obtain ⟨fc, fn, tp, tf, ts, pc, pd, ac, ad, ap, jl, jd, lr, rs⟩ := u
  obtain ⟨g, yP, yC, yD, yF, yO, yS, wc, wd, wp, wl, wu, wn, wr⟩ := v
  obtain ⟨m, P, F, G, K, C, D, TB, X, Y⟩ := I
  unfold wpX_remove wpY_remove
  rcases sm_ix_c v1 (fun q => q < 12 ∧ 0 < P q) with ⟨i, ⟨hi, hp⟩, rfl⟩ | hn
  · have hc : (nI i).toNatClampNeg = i := nI_clamp (by omega)
    have hb := sm_Pb TB i
    refine sm_tkX1 X hi hp hb (br_f (by decide) ⟨4, rm_l (pc := pc) (pd := pd) (by omega) (fun pc' pd' h => ?_) 3 0 rfl pc pd (fun k a _ _ => ⟨by rw [if_neg (fun w => by omega)], fun _ => rfl⟩)⟩)
    refine sm_tkY1 Y hi hp hb (br_t rfl ⟨vp_in_nI hi (by omega), fun yP' e => ?_⟩)
    rw [hc] at e
    subst e
    obtain ⟨r1, r2⟩ := rm_X X hi hp h
    have Y' := rm_Y Y i
    have TB' := tb_rem TB i
    exact sm_cntw (P := ed_up P i 0) (fun a ha => (Y'.2 a ha).1) (sm_Pb TB') ⟨r1.symm, ir_mk TB' r2 Y'⟩
  · exact sm_tkX0 X hn (br_t rfl (sm_tkY0 Y hn (br_f (by decide) ⟨rfl, I'⟩)))
theorem i_vc_load {k : Nat} {u : SX} {v : SY} (I : i_Rel k u v) (hk : k + 4 ≤ 2049) (v1 : Int32) : wpX_load (fun r => wpY_load (fun r' v' => r' = r ∧ i_Rel (k + 4) u v') v v1) u v1 := by
  have I' := i_up I
  obtain ⟨fc, fn, tp, tf, ts, pc, pd, ac, ad, ap, jl, jd, lr, rs⟩ := u
  obtain ⟨g, yP, yC, yD, yF, yO, yS, wc, wd, wp, wl, wu, wn, wr⟩ := v
  obtain ⟨m, P, F, G, K, C, D, TB, X, Y⟩ := I
  have hm := TB.1
  unfold wpX_load wpY_load
  rcases sm_ix_c v1 (fun q => q < m) with ⟨c, hc, rfl⟩ | hn
  · refine sm_crX1 X hm.2 hc (br_f (by decide) ⟨13, ld_X TB X (k := c) (by omega) ?_ 12 0 rfl⟩)
    refine sm_crY1 Y hm.2 hc (br_t rfl (fy_parts TB Y (by omega) (fun wc' wd' wp' T => ?_)))
    exact ⟨13, ld_Y TB T ⟨rfl, ir_mk TB X Y⟩ 12 0 rfl⟩
  · exact sm_crX0 X hm.2 hn (br_t rfl (sm_crY0 Y hm.2 hn (br_f (by decide) ⟨rfl, I'⟩)))
theorem i_vc_running {k : Nat} {u : SX} {v : SY} (I : i_Rel k u v) (hk : k + 4 ≤ 2049) (v1 : Int32) (v2 : Int32) : wpX_running (fun r u' => wpY_running (fun r' v' => r' = r ∧ i_Rel (k + 4) u' v') v v1 v2) u v1 v2 := by
  have I' := i_up I
  obtain ⟨fc, fn, tp, tf, ts, pc, pd, ac, ad, ap, jl, jd, lr, rs⟩ := u
  obtain ⟨g, yP, yC, yD, yF, yO, yS, wc, wd, wp, wl, wu, wn, wr⟩ := v
  obtain ⟨m, P, F, G, K, C, D, TB, X, Y⟩ := I
  have hm := TB.1
  unfold wpX_running wpY_running
  rcases sm_ix_c v1 (fun q => q < m) with ⟨c, hc, rfl⟩ | hn
  · have V := tb_V TB hc
    have ok := TB.2.2.2 c hc
    refine sm_crX1 X hm.2 hc (br_f (by decide) (br_c (fun h0 => ?_) (fun h0 => br_c (fun h60 => ?_) (fun h60 => ?_))))
    · exact sm_crY1 Y hm.2 hc (br_t rfl (br_t h0 ⟨rfl, I'⟩))
    · obtain ⟨s, hs, rfl⟩ := nI_of h0
      have s60 : s < 60 := (nI_ltI (b := 60) hs (by omega)).mp h60
      have hcs : (nI s).toNatClampNeg = s := nI_clamp (by omega)
      refine fx_take X (by omega) (fun ac' ad' ap' T => ?_)
      refine rx_run V T (fun _ jl' jd' lr' rs' _ S => ⟨vp_in_nI s60 (by omega), ?_⟩) (fun z => absurd ok z)
      refine sm_crY1 Y hm.2 hc (br_t rfl (br_f h0 (pk_le s 59 (fun _ => ?_) (fun h => absurd h (by omega)))))
      refine fy_parts TB Y (by omega) (fun wc' wd' wp' T' => ?_)
      refine ry_run V T' (fun _ wl' wu' wn' wr' _ S' => ⟨vp_in_nI s60 (by omega), ?_, ir_mk TB X Y⟩) (fun z => absurd ok z)
      rw [hcs]
      exact (S' s s60).trans (S s s60).symm
    · have h59 : ¬ v2 ≤ 59 := fun z => h60 (Int32.lt_of_le_of_lt z (by decide))
      exact sm_crY1 Y hm.2 hc (br_t rfl (br_f h0 (br_f h59 ⟨rfl, I'⟩)))
  · exact sm_crX0 X hm.2 hn (br_t rfl (sm_crY0 Y hm.2 hn (br_f (by decide) ⟨rfl, I'⟩)))
theorem i_vc_response {k : Nat} {u : SX} {v : SY} (I : i_Rel k u v) (hk : k + 4 ≤ 2049) (v1 : Int32) (v2 : Int32) : wpX_response (fun r u' => wpY_response (fun r' v' => r' = r ∧ i_Rel (k + 4) u' v') v v1 v2) u v1 v2 := by
  have I' := i_up I
  obtain ⟨fc, fn, tp, tf, ts, pc, pd, ac, ad, ap, jl, jd, lr, rs⟩ := u
  obtain ⟨g, yP, yC, yD, yF, yO, yS, wc, wd, wp, wl, wu, wn, wr⟩ := v
  obtain ⟨m, P, F, G, K, C, D, TB, X, Y⟩ := I
  have hm := TB.1
  unfold wpX_response wpY_response
  rcases sm_ix_c v1 (fun q => q < m) with ⟨c, hc, rfl⟩ | hn
  · have V := tb_V TB hc
    have ok := TB.2.2.2 c hc
    refine sm_crX1 X hm.2 hc (br_f (by decide) ?_)
    rcases sm_ix_c v2 (fun q => q < 12 ∧ 0 < P q) with ⟨i, ⟨hi, hp⟩, rfl⟩ | hn2
    · have hci : (nI i).toNatClampNeg = i := nI_clamp (by omega)
      have hb := sm_Pb TB i
      have hcb := sm_cb TB (k := c) i
      have hx : nI c * 13 + nI i = nI (c * 13 + i) := by rw [show (13 : Int32) = nI 13 from rfl, pk_mul, nI_add]
      have e1 : pc (nI c * 13 + nI i).toNatClampNeg = nI (tb_c P F G K C c i) := by
        rw [pk_cl (c * 13 + i) hx]; exact (X.2.2.2 c i (by omega) (by omega)).1
      refine sm_tkX1 X hi hp hb (br_f (by decide) ⟨pk_in (c * 13 + i) 39 (by omega) hx, pk_eq (tb_c P F G K C c i) 0 (fun z => ?_) (fun z => ?_) e1⟩)
      · refine sm_crY1 Y hm.2 hc (br_t rfl (sm_tkY1 Y hi hp hb (br_t rfl (fy_parts TB Y (by omega) (fun wc' wd' wp' T' => ⟨vp_in_nI (by omega) (by omega), ?_⟩)))))
        refine br_t ?_ ⟨rfl, ir_mk TB X Y⟩
        rw [hci, (T' i (by omega)).1, z]; rfl
      · refine fx_take X (by omega) (fun ac' ad' ap' T => ?_)
        refine rx_run V T (fun _ jl' jd' lr' rs' R _ => ⟨vp_in_nI (by omega) (by omega), ?_⟩) (fun z => absurd ok z)
        refine sm_crY1 Y hm.2 hc (br_t rfl (sm_tkY1 Y hi hp hb (br_t rfl (fy_parts TB Y (by omega) (fun wc' wd' wp' T' => ⟨vp_in_nI (by omega) (by omega), ?_⟩)))))
        refine br_f ?_ (ry_run V T' (fun _ wl' wu' wn' wr' R' _ => ⟨vp_in_nI (by omega) (by omega), ?_, ir_mk TB X Y⟩) (fun z => absurd ok z))
        · rw [hci, (T' i (by omega)).1]; exact nI_ne0 (by omega) (by omega)
        · rw [hci]
          exact (R' i (by omega)).trans (R i (by omega)).symm
    · exact sm_tkX0 X hn2 (br_t rfl (sm_crY1 Y hm.2 hc (br_t rfl (sm_tkY0 Y hn2 (br_f (by decide) ⟨rfl, I'⟩)))))
  · exact sm_crX0 X hm.2 hn (br_t rfl (sm_crY0 Y hm.2 hn (br_f (by decide) ⟨rfl, I'⟩)))
end
section
/-! spare -/
section
variable {fc fn : Int32} {tp tf ts pc pd : Nat → Int32} {m : Nat} {P F G K C D : Nat → Nat}
variable {g : Int32} {yP yC yD yF yO yS : Nat → Int32}
theorem sp_X {post : Int32 → SX → Prop} (TB : tb_ok m P F G K C D) (X : tx_I m P F G K C D fc fn tp tf ts pc pd) {k j pp : Nat} (hk : k < m) (hj : j < 13) (hp : sm_per pp)
    (h1 : ∀ y, 1 ≤ y → y ≤ pp → tb_T P F G K C D j pp k y pp → (∀ z, y < z → z ≤ pp → ¬ tb_T P F G K C D j pp k z pp) →
      ∀ ac ad ap jl jd lr rs, post (nI y) (fc, fn, tp, tf, ts, pc, pd, ac, ad, ap, jl, jd, lr, rs))
    (h0 : (∀ y, 1 ≤ y → y ≤ pp → ¬ tb_T P F G K C D j pp k y pp) → ∀ ac ad ap jl jd lr rs, post 0 (fc, fn, tp, tf, ts, pc, pd, ac, ad, ap, jl, jd, lr, rs)) :
    ∀ x, x ≤ pp → (∀ z, x < z → z ≤ pp → ¬ tb_T P F G K C D j pp k z pp) → ∀ ac ad ap jl jd lr rs,
      wX_spare_29 post (nI k) (nI pp) (nI j) (x + 1) (nI x) fc fn tp tf ts pc pd ac ad ap jl jd lr rs := by
  have hp' := hp
  obtain ⟨q1, q2, q3⟩ := hp'
  intro x
  induction x with
  | zero =>
    intro _ hn ac ad ap jl jd lr rs
    exact pk_lt 0 1 (fun _ => h0 (fun y a b => hn y (by omega) b) _ _ _ _ _ _ _) (fun h => absurd h (by omega))
  | succ x ih =>
    intro hx hn ac ad ap jl jd lr rs
    refine pk_lt (x + 1) 1 (fun h => absurd h (by omega)) (fun _ => fx_fits TB X hk hj hx (Nat.le_refl _) q2 q3 (fun t ac ad ap jl jd lr rs => ?_) (fun nt ac ad ap jl jd lr rs => ?_))
    · exact br_f (by decide) (h1 (x + 1) (by omega) hx t hn _ _ _ _ _ _ _)
    · refine br_t rfl (nm_r (pk_m1 x) (ih (by omega) (fun z a b => ?_) _ _ _ _ _ _ _))
      by_cases e : z = x + 1
      · rw [e]; exact nt
      · exact hn z (by omega) b
theorem sp_Y {post : Int32 → SY → Prop} (TB : tb_ok m P F G K C D) (Y : ty_I m P F G K C D g yP yC yD yF yO yS) {k j pp : Nat} (hk : k < m) (hj : j < 13) (hp : sm_per pp)
    (h1 : ∀ y, 1 ≤ y → y ≤ pp → tb_T P F G K C D j pp k y pp → (∀ z, y < z → z ≤ pp → ¬ tb_T P F G K C D j pp k z pp) →
      ∀ wc wd wp wl wu wn wr, post (nI y) (g, yP, yC, yD, yF, yO, yS, wc, wd, wp, wl, wu, wn, wr))
    (h0 : (∀ y, 1 ≤ y → y ≤ pp → ¬ tb_T P F G K C D j pp k y pp) → ∀ wc wd wp wl wu wn wr, post 0 (g, yP, yC, yD, yF, yO, yS, wc, wd, wp, wl, wu, wn, wr)) :
    ∀ x, x ≤ pp → (∀ z, x < z → z ≤ pp → ¬ tb_T P F G K C D j pp k z pp) → ∀ wc wd wp wl wu wn wr,
      wY_spare_29 post (nI k) (nI pp) (nI j) (x + 1) (nI x) g yP yC yD yF yO yS wc wd wp wl wu wn wr := by
  have hp' := hp
  obtain ⟨q1, q2, q3⟩ := hp'
  intro x
  induction x with
  | zero =>
    intro _ hn ac ad ap jl jd lr rs
    exact pk_le 0 0 (fun _ => h0 (fun y a b => hn y (by omega) b) _ _ _ _ _ _ _) (fun h => absurd h (by omega))
  | succ x ih =>
    intro hx hn ac ad ap jl jd lr rs
    refine pk_le (x + 1) 0 (fun h => absurd h (by omega)) (fun _ => fy_takes TB Y hk hj hx (Nat.le_refl _) q2 q3 (fun t ac ad ap jl jd lr rs => ?_) (fun nt ac ad ap jl jd lr rs => ?_))
    · exact br_f (by decide) (h1 (x + 1) (by omega) hx t hn _ _ _ _ _ _ _)
    · refine br_t rfl (nm_r (pk_m1 x) (ih (by omega) (fun z a b => ?_) _ _ _ _ _ _ _))
      by_cases e : z = x + 1
      · rw [e]; exact nt
      · exact hn z (by omega) b
end
theorem i_vc_spare {k : Nat} {u : SX} {v : SY} (I : i_Rel k u v) (hk : k + 4 ≤ 2049) (v1 : Int32) (v2 : Int32) : wpX_spare (fun r u' => wpY_spare (fun r' v' => r' = r ∧ i_Rel (k + 4) u' v') v v1 v2) u v1 v2 := by
  have I' := i_up I
  obtain ⟨fc, fn, tp, tf, ts, pc, pd, ac, ad, ap, jl, jd, lr, rs⟩ := u
  obtain ⟨g, yP, yC, yD, yF, yO, yS, wc, wd, wp, wl, wu, wn, wr⟩ := v
  obtain ⟨m, P, F, G, K, C, D, TB, X, Y⟩ := I
  have hm := TB.1
  have hb := sm_Pb TB
  unfold wpX_spare wpY_spare
  rcases sm_ix_c v1 (fun q => q < m) with ⟨c, hc, rfl⟩ | hn
  · rcases sm_per_c v2 with ⟨q, hq, rfl⟩ | hnq
    · obtain ⟨j, hf⟩ := tb_fr_ex P
      have hj : j < 13 := by have := hf.1; omega
      refine sm_crX1 X hm.2 hc (br_f (by decide) (sm_perX1 hq (br_f (by decide) (sm_frXw X hb hf ⟨q + 1, sp_X TB X hc hj hq (fun y y1 y2 t n ac ad ap jl jd lr rs => ?_)
        (fun n ac ad ap jl jd lr rs => ?_) q (Nat.le_refl _) (fun z a b => by omega) _ _ _ _ _ _ _⟩))))
      · refine sm_crY1 Y hm.2 hc (br_t rfl (sm_perY1 hq (br_t rfl (sm_frYw Y hb hf ⟨q + 1, sp_Y TB Y hc hj hq (fun y' y1' y2' t' n' wc wd wp wl wu wn wr => ?_)
          (fun n' wc wd wp wl wu wn wr => absurd t (n' y y1 y2)) q (Nat.le_refl _) (fun z a b => by omega) _ _ _ _ _ _ _⟩))))
        have e : y' = y := by
          rcases Nat.lt_trichotomy y' y with z | z | z
          · exact absurd t (n' y z y2)
          · exact z
          · exact absurd t' (n y' z y2')
        exact ⟨congrArg nI e, ir_mk TB X Y⟩
      · exact sm_crY1 Y hm.2 hc (br_t rfl (sm_perY1 hq (br_t rfl (sm_frYw Y hb hf ⟨q + 1, sp_Y TB Y hc hj hq (fun y' y1' y2' t' n' wc wd wp wl wu wn wr => absurd t' (n y' y1' y2'))
          (fun n' wc wd wp wl wu wn wr => ⟨rfl, ir_mk TB X Y⟩) q (Nat.le_refl _) (fun z a b => by omega) _ _ _ _ _ _ _⟩))))
    · exact sm_crX1 X hm.2 hc (br_f (by decide) (sm_perX0 hnq (br_t rfl (sm_crY1 Y hm.2 hc (br_t rfl (sm_perY0 hnq (br_f (by decide) ⟨rfl, I'⟩)))))))
  · exact sm_crX0 X hm.2 hn (br_t rfl (sm_crY0 Y hm.2 hn (br_f (by decide) ⟨rfl, I'⟩)))
end
section
/-! a task placed, the first program: whole on a core, or split -/
section
variable {fc fn : Int32} {tp tf ts pc pd : Nat → Int32} {m : Nat} {P F G K C D : Nat → Nat} {j c d pp : Nat}
theorem ax_W_l {post : Int32 → SX → Prop} (TB : tb_ok m P F G K C D) (X : tx_I m P F G K C D fc fn tp tf ts pc pd) (hj : j < 13) (a1 : c ≤ d) (a2 : d ≤ pp) (a3 : pp ≤ 60) (a4 : 60 % pp = 0)
    (h1 : ∀ k, ad_W (tb_T P F G K C D j pp) m c d k → ∀ ac ad ap jl jd lr rs,
      post 1 (fc, fn, upd tp j (nI pp), upd tf j (nI k), upd ts j (-4), upd pc (k * 13 + j) (nI c), upd pd (k * 13 + j) (nI d), ac, ad, ap, jl, jd, lr, rs))
    (h0 : (∀ k, k < m → ¬ tb_T P F G K C D j pp k c d) → ∀ ac ad ap jl jd lr rs, post 0 (fc, fn, tp, tf, ts, pc, pd, ac, ad, ap, jl, jd, lr, rs)) :
    ∀ e k, k + e = m → (∀ a, a < k → ¬ tb_T P F G K C D j pp a c d) → ∀ ac ad ap jl jd lr rs,
      wX_placeWhole_3 post (nI j) (nI c) (nI d) (nI pp) (e + 1) (nI k) fc fn tp tf ts pc pd ac ad ap jl jd lr rs := by
  have hm := TB.1
  intro e
  induction e with
  | zero =>
    intro k hk hn ac ad ap jl jd lr rs
    have e1 : k = m := by omega
    subst e1
    exact pk_le k k (fun _ => h0 hn _ _ _ _ _ _ _) (fun h => absurd h (by omega)) X.1
  | succ e ih =>
    intro k hk hn ac ad ap jl jd lr rs
    refine pk_le m k (fun h => absurd h (by omega)) (fun _ => fx_fits TB X (by omega) hj a1 a2 a3 a4 (fun t ac ad ap jl jd lr rs => ?_) (fun nt ac ad ap jl jd lr rs => ?_)) X.1
    · exact br_f (by decide) (fx_setTask hj (fx_setPart (by omega) hj (h1 k ⟨by omega, t, hn⟩ _ _ _ _ _ _ _)))
    · exact br_t rfl (nm_r (nI_1 k) (ih (k + 1) (by omega) (lt_s hn nt) _ _ _ _ _ _ _))
theorem ax_26 {post : Int32 → SX → Prop} {J5 J14 : Int32 → Int32 → Int32 → (Nat → Int32) → (Nat → Int32) → (Nat → Int32) → (Nat → Int32) → (Nat → Int32) → (Nat → Int32) → (Nat → Int32) → (Nat → Int32) → (Nat → Int32) → (Nat → Int32) → (Nat → Int32) → (Nat → Int32) → Prop}
    (TB : tb_ok m P F G K C D) (X : tx_I m P F G K C D fc fn tp tf ts pc pd) (hj : j < 13) (a1 : c ≤ d) (a2 : d ≤ pp) (a3 : pp ≤ 60) (a4 : 60 % pp = 0)
    (h1 : ∀ x i b, ad_Z (tb_T P F G K C D j pp) m c d x i b → ∀ ac ad ap jl jd lr rs,
      post 1 (fc, fn, upd tp j (nI pp), upd tf j (nI i), upd ts j (nI b), upd (upd pc (i * 13 + j) (nI x)) (b * 13 + j) (nI (c - x)), upd (upd pd (i * 13 + j) (nI x)) (b * 13 + j) (nI (d - x)), ac, ad, ap, jl, jd, lr, rs))
    {x i : Nat} (hx : 1 ≤ x) (hxc : x < c) (hi : i < m)
    (hy : ∀ y, x < y → y < c → ∀ a b, ¬ ad_Q (tb_T P F G K C D j pp) m c d y a b) (ha : ∀ a, a < i → ∀ b, ¬ ad_Q (tb_T P F G K C D j pp) m c d x a b)
    (hJ : (∀ b, ¬ ad_Q (tb_T P F G K C D j pp) m c d x i b) → ∀ ac ad ap jl jd lr rs, J14 (nI (i + 1)) fc fn tp tf ts pc pd ac ad ap jl jd lr rs) :
    ∀ e b, b + e = m → (∀ b', b' < b → ¬ ad_Q (tb_T P F G K C D j pp) m c d x i b') → ∀ ac ad ap jl jd lr rs,
      wX_placeSplit_26 post J5 J14 (nI j) (nI c) (nI d) (nI pp) (nI x) (nI i) (e + 1) (nI b) fc fn tp tf ts pc pd ac ad ap jl jd lr rs := by
  have hm := TB.1
  intro e
  induction e with
  | zero =>
    intro b hb hn ac ad ap jl jd lr rs
    have e1 : b = m := by omega
    subst e1
    exact pk_le b b (fun _ => nm_r (nI_1 i) (hJ (fun b' q => hn b' q.2.1 q) _ _ _ _ _ _ _)) (fun h => absurd h (by omega)) X.1
  | succ e ih =>
    intro b hb hn ac ad ap jl jd lr rs
    refine pk_le m b (fun h => absurd h (by omega)) (fun _ => pk_eq i b (fun z => ?_) (fun z => ?_)) X.1
    · exact nm_r (nI_1 b) (ih (b + 1) (by omega) (lt_s hn (fun q => q.2.2.1 z)) _ _ _ _ _ _ _)
    · refine fx_fits TB X hi hj (Nat.le_refl x) (by omega) a3 a4 (fun t ac ad ap jl jd lr rs => br_f (by decide) ?_) (fun nt ac ad ap jl jd lr rs => ?_)
      · rw [pk_sub (a := c) (b := x) (by omega), pk_sub (a := d) (b := x) (by omega)]
        refine fx_fits TB X (by omega) hj (by omega) (by omega) a3 a4 (fun t2 ac ad ap jl jd lr rs => ?_) (fun nt ac ad ap jl jd lr rs => ?_)
        · refine br_f (by decide) (fx_setTask hj (fx_setPart (by omega) hj (fx_setPart (by omega) hj (h1 x i b ?_ _ _ _ _ _ _ _))))
          exact ⟨hx, hxc, ⟨hi, by omega, z, t, t2⟩, hy, ha, hn⟩
        · exact br_t rfl (nm_r (nI_1 b) (ih (b + 1) (by omega) (lt_s hn (fun q => nt q.2.2.2.2)) _ _ _ _ _ _ _))
      · exact br_t rfl (nm_r (nI_1 b) (ih (b + 1) (by omega) (lt_s hn (fun q => nt q.2.2.2.1)) _ _ _ _ _ _ _))
theorem ax_14 {post : Int32 → SX → Prop} {J5 : Int32 → Int32 → Int32 → (Nat → Int32) → (Nat → Int32) → (Nat → Int32) → (Nat → Int32) → (Nat → Int32) → (Nat → Int32) → (Nat → Int32) → (Nat → Int32) → (Nat → Int32) → (Nat → Int32) → (Nat → Int32) → (Nat → Int32) → Prop}
    (TB : tb_ok m P F G K C D) (X : tx_I m P F G K C D fc fn tp tf ts pc pd) (hj : j < 13) (a1 : c ≤ d) (a2 : d ≤ pp) (a3 : pp ≤ 60) (a4 : 60 % pp = 0)
    (h1 : ∀ x i b, ad_Z (tb_T P F G K C D j pp) m c d x i b → ∀ ac ad ap jl jd lr rs,
      post 1 (fc, fn, upd tp j (nI pp), upd tf j (nI i), upd ts j (nI b), upd (upd pc (i * 13 + j) (nI x)) (b * 13 + j) (nI (c - x)), upd (upd pd (i * 13 + j) (nI x)) (b * 13 + j) (nI (d - x)), ac, ad, ap, jl, jd, lr, rs))
    {x : Nat} (hxc : x + 1 < c)
    (hy : ∀ y, x + 1 < y → y < c → ∀ a b, ¬ ad_Q (tb_T P F G K C D j pp) m c d y a b)
    (hJ : (∀ a b, ¬ ad_Q (tb_T P F G K C D j pp) m c d (x + 1) a b) → ∀ ac ad ap jl jd lr rs, J5 (nI x) fc fn tp tf ts pc pd ac ad ap jl jd lr rs) :
    ∀ e i, i + e = m → (∀ a, a < i → ∀ b, ¬ ad_Q (tb_T P F G K C D j pp) m c d (x + 1) a b) → ∀ ac ad ap jl jd lr rs,
      wX_placeSplit_14 post J5 (nI j) (nI c) (nI d) (nI pp) (nI (x + 1)) (e + 1) (nI i) fc fn tp tf ts pc pd ac ad ap jl jd lr rs := by
  have hm := TB.1
  intro e
  induction e with
  | zero =>
    intro i hi hn ac ad ap jl jd lr rs
    have e1 : i = m := by omega
    subst e1
    exact pk_le i i (fun _ => nm_r (pk_m1 x) (hJ (fun a b q => hn a q.1 b q) _ _ _ _ _ _ _)) (fun h => absurd h (by omega)) X.1
  | succ e ih =>
    intro i hi hn ac ad ap jl jd lr rs
    refine pk_le m i (fun h => absurd h (by omega)) (fun _ => ⟨m + 1, ?_⟩) X.1
    refine ax_26 TB X hj a1 a2 a3 a4 h1 (by omega) hxc (by omega) hy hn (fun hb ac ad ap jl jd lr rs => ?_) m 0 (by omega) (fun b hb => absurd hb (Nat.not_lt_zero b)) _ _ _ _ _ _ _
    exact ih (i + 1) (by omega) (lt_s hn hb) _ _ _ _ _ _ _
theorem ax_5 {post : Int32 → SX → Prop} (TB : tb_ok m P F G K C D) (X : tx_I m P F G K C D fc fn tp tf ts pc pd) (hj : j < 13) (a1 : c ≤ d) (a2 : d ≤ pp) (a3 : pp ≤ 60) (a4 : 60 % pp = 0)
    (h1 : ∀ x i b, ad_Z (tb_T P F G K C D j pp) m c d x i b → ∀ ac ad ap jl jd lr rs,
      post 1 (fc, fn, upd tp j (nI pp), upd tf j (nI i), upd ts j (nI b), upd (upd pc (i * 13 + j) (nI x)) (b * 13 + j) (nI (c - x)), upd (upd pd (i * 13 + j) (nI x)) (b * 13 + j) (nI (d - x)), ac, ad, ap, jl, jd, lr, rs))
    (h0 : (∀ x, 1 ≤ x → x < c → ∀ i b, ¬ ad_Q (tb_T P F G K C D j pp) m c d x i b) → ∀ ac ad ap jl jd lr rs, post 0 (fc, fn, tp, tf, ts, pc, pd, ac, ad, ap, jl, jd, lr, rs)) :
    ∀ x, x < c → (∀ y, x < y → y < c → ∀ a b, ¬ ad_Q (tb_T P F G K C D j pp) m c d y a b) → ∀ ac ad ap jl jd lr rs,
      wX_placeSplit_5 post (nI j) (nI c) (nI d) (nI pp) (x + 1) (nI x) fc fn tp tf ts pc pd ac ad ap jl jd lr rs := by
  intro x
  induction x with
  | zero =>
    intro hx hn ac ad ap jl jd lr rs
    exact pk_lt 0 1 (fun _ => h0 (fun y y1 y2 => hn y (by omega) y2) _ _ _ _ _ _ _) (fun h => absurd h (by omega))
  | succ x ih =>
    intro hx hn ac ad ap jl jd lr rs
    refine pk_lt (x + 1) 1 (fun h => absurd h (by omega)) (fun _ => ⟨m + 1, ?_⟩)
    refine ax_14 TB X hj a1 a2 a3 a4 h1 hx hn (fun hq ac ad ap jl jd lr rs => ?_) m 0 (by omega) (fun b hb => absurd hb (Nat.not_lt_zero b)) _ _ _ _ _ _ _
    refine ih (by omega) (fun y y1 y2 => ?_) _ _ _ _ _ _ _
    by_cases z : y = x + 1
    · rw [z]; exact hq
    · exact hn y (by omega) y2
theorem ax_W {post : Int32 → SX → Prop} {ac ad ap jl jd lr rs : Nat → Int32} (TB : tb_ok m P F G K C D) (X : tx_I m P F G K C D fc fn tp tf ts pc pd) (hj : j < 13) (a1 : c ≤ d) (a2 : d ≤ pp) (a3 : pp ≤ 60) (a4 : 60 % pp = 0)
    (h1 : ∀ k, ad_W (tb_T P F G K C D j pp) m c d k → ∀ ac ad ap jl jd lr rs,
      post 1 (fc, fn, upd tp j (nI pp), upd tf j (nI k), upd ts j (-4), upd pc (k * 13 + j) (nI c), upd pd (k * 13 + j) (nI d), ac, ad, ap, jl, jd, lr, rs))
    (h0 : (∀ k, k < m → ¬ tb_T P F G K C D j pp k c d) → ∀ ac ad ap jl jd lr rs, post 0 (fc, fn, tp, tf, ts, pc, pd, ac, ad, ap, jl, jd, lr, rs)) :
    wpX_placeWhole post (fc, fn, tp, tf, ts, pc, pd, ac, ad, ap, jl, jd, lr, rs) (nI j) (nI c) (nI d) (nI pp) :=
  ⟨m + 1, ax_W_l TB X hj a1 a2 a3 a4 h1 h0 m 0 (by omega) (fun b hb => absurd hb (Nat.not_lt_zero b)) _ _ _ _ _ _ _⟩
theorem ax_S {post : Int32 → SX → Prop} {ac ad ap jl jd lr rs : Nat → Int32} (TB : tb_ok m P F G K C D) (X : tx_I m P F G K C D fc fn tp tf ts pc pd) (hj : j < 13) (a0 : 1 ≤ c) (a1 : c ≤ d) (a2 : d ≤ pp) (a3 : pp ≤ 60) (a4 : 60 % pp = 0)
    (h1 : ∀ x i b, ad_Z (tb_T P F G K C D j pp) m c d x i b → ∀ ac ad ap jl jd lr rs,
      post 1 (fc, fn, upd tp j (nI pp), upd tf j (nI i), upd ts j (nI b), upd (upd pc (i * 13 + j) (nI x)) (b * 13 + j) (nI (c - x)), upd (upd pd (i * 13 + j) (nI x)) (b * 13 + j) (nI (d - x)), ac, ad, ap, jl, jd, lr, rs))
    (h0 : (∀ x, 1 ≤ x → x < c → ∀ i b, ¬ ad_Q (tb_T P F G K C D j pp) m c d x i b) → ∀ ac ad ap jl jd lr rs, post 0 (fc, fn, tp, tf, ts, pc, pd, ac, ad, ap, jl, jd, lr, rs)) :
    wpX_placeSplit post (fc, fn, tp, tf, ts, pc, pd, ac, ad, ap, jl, jd, lr, rs) (nI j) (nI c) (nI d) (nI pp) :=
  nm_r (e' := nI (c - 1)) (pk_sub (a := c) (b := 1) a0) ⟨c - 1 + 1, ax_5 TB X hj a1 a2 a3 a4 h1 h0 (c - 1) (by omega) (fun y y1 y2 => by omega) _ _ _ _ _ _ _⟩
end
end
section
/-! a task placed, the second program -/
section
variable {g : Int32} {yP yC yD yF yO yS : Nat → Int32} {m : Nat} {P F G K C D : Nat → Nat} {j c d pp : Nat}
theorem fy_place {post : Int32 → SY → Prop} {wc wd wp wl wu wn wr : Nat → Int32} {i : Nat} (hi : i < 12) {x a b : Int32}
    (H : post (nI i) (g, yP, yC, yD, upd yF i x, upd yO i a, upd yS i b, wc, wd, wp, wl, wu, wn, wr)) :
    wpY_place post (g, yP, yC, yD, yF, yO, yS, wc, wd, wp, wl, wu, wn, wr) (nI i) x a b := by
  have hc : (nI i).toNatClampNeg = i := nI_clamp (by omega)
  have hin : vp_in (nI i) 12 := vp_in_nI (by omega) (by omega)
  refine ⟨hin, fun a1 e1 => ⟨hin, fun a2 e2 => ⟨hin, fun a3 e3 => ?_⟩⟩⟩
  rw [hc] at e1 e2 e3
  subst e1 e2 e3
  exact H
/-! the idle rounds behind a place found -/
theorem ai_125 {post : Int32 → SY → Prop} {J : Int32 → Int32 → Int32 → (Nat → Int32) → (Nat → Int32) → (Nat → Int32) → (Nat → Int32) → (Nat → Int32) → (Nat → Int32) → (Nat → Int32) → (Nat → Int32) → (Nat → Int32) → (Nat → Int32) → (Nat → Int32) → (Nat → Int32) → (Nat → Int32) → Prop}
    {wc wd wp wl wu wn wr : Nat → Int32} (hg : g = nI m) (hm : m ≤ 3) (hj : j < 12) {x : Nat} {z1 z2 z3 : Int32}
    (H : J (nI j) (nI x) g yP yC yD yF yO yS wc wd wp wl wu wn wr) :
    ∀ e i, i + e = m → wY_admit_125 post J z1 z2 z3 (nI j) (nI (x + 1)) (e + 1) (nI j) (nI i) g yP yC yD yF yO yS wc wd wp wl wu wn wr := by
  intro e
  induction e with
  | zero =>
    intro i hi
    have e1 : i = m := by omega
    subst e1
    exact pk_le i i (fun _ => nm_r (pk_m1 x) H) (fun h => absurd h (by omega)) hg
  | succ e ih =>
    intro i hi
    exact pk_le m i (fun h => absurd h (by omega)) (fun _ => br_f (tb_ne4 (by omega)) (nm_r (nI_1 i) (ih (i + 1) (by omega)))) hg
theorem ai_117 {post : Int32 → SY → Prop} {wc wd wp wl wu wn wr : Nat → Int32} (hg : g = nI m) (hm : m ≤ 3) (hj : j < 12)
    (H : post (nI j) (g, upd yP j (nI pp), upd yC j (nI c), upd yD j (nI d), yF, yO, yS, wc, wd, wp, wl, wu, wn, wr)) :
    ∀ x, x ≤ 60 → wY_admit_117 post (nI c) (nI d) (nI pp) (nI j) (x + 1) (nI j) (nI x) g yP yC yD yF yO yS wc wd wp wl wu wn wr := by
  have hc : (nI j).toNatClampNeg = j := nI_clamp (by omega)
  have hin : vp_in (nI j) 12 := vp_in_nI (by omega) (by omega)
  intro x
  induction x with
  | zero =>
    intro _
    refine pk_le 0 0 (fun _ => br_f (tb_ne4 (by omega)) ⟨hin, fun a1 e1 => ⟨hin, fun a2 e2 => ⟨hin, fun a3 e3 => ?_⟩⟩⟩) (fun h => absurd h (by omega))
    rw [hc] at e1 e2 e3
    subst e1 e2 e3
    exact H
  | succ x ih =>
    intro hx
    exact pk_le (x + 1) 0 (fun h => absurd h (by omega)) (fun _ => ⟨m + 1, ai_125 hg hm hj (ih (by omega)) m 0 (by omega)⟩)
theorem ai_63 {post : Int32 → SY → Prop} {wc wd wp wl wu wn wr : Nat → Int32} (hg : g = nI m) (hm : m ≤ 3) (hj : j < 12) (a0 : 1 ≤ c) (hc60 : c ≤ 60)
    (H : post (nI j) (g, upd yP j (nI pp), upd yC j (nI c), upd yD j (nI d), yF, yO, yS, wc, wd, wp, wl, wu, wn, wr)) :
    ∀ e i, i + e = m → wY_admit_63 post (nI c) (nI d) (nI pp) (nI j) (e + 1) (nI j) (nI i) g yP yC yD yF yO yS wc wd wp wl wu wn wr := by
  intro e
  induction e with
  | zero =>
    intro i hi
    have e1 : i = m := by omega
    subst e1
    exact pk_le i i (fun _ => nm_r (e' := nI (c - 1)) (pk_sub (a := c) (b := 1) a0) ⟨c - 1 + 1, ai_117 hg hm hj H (c - 1) (by omega)⟩) (fun h => absurd h (by omega)) hg
  | succ e ih =>
    intro i hi
    exact pk_le m i (fun h => absurd h (by omega)) (fun _ => br_f (tb_ne4 (by omega)) (nm_r (nI_1 i) (ih (i + 1) (by omega)))) hg
theorem ay_sec_l {post : Int32 → SY → Prop} (TB : tb_ok m P F G K C D) (Y : ty_I m P F G K C D g yP yC yD yF yO yS) (hj : j < 13) {x dd i : Nat} (hi : i < m) (a1 : x ≤ dd) (a2 : dd ≤ pp) (a3 : pp ≤ 60) (a4 : 60 % pp = 0)
    (h1 : ∀ b, b < m → i ≠ b → tb_T P F G K C D j pp b x dd → (∀ b', b' < b → ¬ (i ≠ b' ∧ tb_T P F G K C D j pp b' x dd)) →
      ∀ wc wd wp wl wu wn wr, post (nI b) (g, yP, yC, yD, yF, yO, yS, wc, wd, wp, wl, wu, wn, wr))
    (h0 : (∀ b', b' < m → ¬ (i ≠ b' ∧ tb_T P F G K C D j pp b' x dd)) → ∀ wc wd wp wl wu wn wr, post (-4) (g, yP, yC, yD, yF, yO, yS, wc, wd, wp, wl, wu, wn, wr)) :
    ∀ e b, b + e = m → (∀ b', b' < b → ¬ (i ≠ b' ∧ tb_T P F G K C D j pp b' x dd)) → ∀ wc wd wp wl wu wn wr,
      wY_second_3 post (nI i) (nI j) (nI x) (nI dd) (nI pp) (e + 1) (nI b) g yP yC yD yF yO yS wc wd wp wl wu wn wr := by
  have hm := TB.1
  intro e
  induction e with
  | zero =>
    intro b hb hn wc wd wp wl wu wn wr
    have e1 : b = m := by omega
    subst e1
    exact pk_le b b (fun _ => h0 hn _ _ _ _ _ _ _) (fun h => absurd h (by omega)) Y.1
  | succ e ih =>
    intro b hb hn wc wd wp wl wu wn wr
    refine pk_le m b (fun h => absurd h (by omega)) (fun _ => pk_eq b i (fun z => ?_) (fun z => ?_)) Y.1
    · exact nm_r (nI_1 b) (ih (b + 1) (by omega) (lt_s hn (fun q => q.1 z.symm)) _ _ _ _ _ _ _)
    · refine fy_takes TB Y (by omega) hj a1 a2 a3 a4 (fun t wc wd wp wl wu wn wr => ?_) (fun nt wc wd wp wl wu wn wr => ?_)
      · exact br_f (by decide) (h1 b (by omega) (fun h => z h.symm) t hn _ _ _ _ _ _ _)
      · exact br_t rfl (nm_r (nI_1 b) (ih (b + 1) (by omega) (lt_s hn (fun q => nt q.2)) _ _ _ _ _ _ _))
theorem ay_125 {post : Int32 → SY → Prop} {J : Int32 → Int32 → Int32 → (Nat → Int32) → (Nat → Int32) → (Nat → Int32) → (Nat → Int32) → (Nat → Int32) → (Nat → Int32) → (Nat → Int32) → (Nat → Int32) → (Nat → Int32) → (Nat → Int32) → (Nat → Int32) → (Nat → Int32) → (Nat → Int32) → Prop}
    (TB : tb_ok m P F G K C D) (Y : ty_I m P F G K C D g yP yC yD yF yO yS) (hj : j < 12) (a1 : c ≤ d) (a2 : d ≤ pp) (a3 : pp ≤ 60) (a4 : 60 % pp = 0)
    {x : Nat} (hxc : x + 1 < c)
    (hy : ∀ y, x + 1 < y → y < c → ∀ a b, ¬ ad_Q (tb_T P F G K C D j pp) m c d y a b)
    (h1 : ∀ i b, ad_Z (tb_T P F G K C D j pp) m c d (x + 1) i b → ∀ wc wd wp wl wu wn wr,
      J (nI j) (nI x) g yP yC yD (upd yF j (nI (x + 1))) (upd yO j (nI i)) (upd yS j (nI b)) wc wd wp wl wu wn wr)
    (h0 : (∀ a b, ¬ ad_Q (tb_T P F G K C D j pp) m c d (x + 1) a b) → ∀ wc wd wp wl wu wn wr, J (-4) (nI x) g yP yC yD yF yO yS wc wd wp wl wu wn wr) :
    ∀ e i, i + e = m → (∀ a, a < i → ∀ b, ¬ ad_Q (tb_T P F G K C D j pp) m c d (x + 1) a b) → ∀ wc wd wp wl wu wn wr,
      wY_admit_125 post J (nI c) (nI d) (nI pp) (nI j) (nI (x + 1)) (e + 1) (-4) (nI i) g yP yC yD yF yO yS wc wd wp wl wu wn wr := by
  have hm := TB.1
  intro e
  induction e with
  | zero =>
    intro i hi hn wc wd wp wl wu wn wr
    have e1 : i = m := by omega
    subst e1
    exact pk_le i i (fun _ => nm_r (pk_m1 x) (h0 (fun a b q => hn a q.1 b q) _ _ _ _ _ _ _)) (fun h => absurd h (by omega)) Y.1
  | succ e ih =>
    intro i hi hn wc wd wp wl wu wn wr
    refine pk_le m i (fun h => absurd h (by omega)) (fun _ => br_t rfl (fy_takes TB Y (by omega) (by omega) (Nat.le_refl (x + 1)) (by omega) a3 a4 (fun t wc wd wp wl wu wn wr => br_f (by decide) ?_) (fun nt wc wd wp wl wu wn wr => ?_))) Y.1
    · rw [pk_sub (a := c) (b := x + 1) (by omega), pk_sub (a := d) (b := x + 1) (by omega)]
      refine ⟨m + 1, ay_sec_l TB Y (by omega) (i := i) (by omega) (by omega) (by omega) a3 a4 (fun b hb ne t2 hl wc wd wp wl wu wn wr => ?_) (fun hl wc wd wp wl wu wn wr => ?_) m 0 (by omega)
        (fun b hb => absurd hb (Nat.not_lt_zero b)) _ _ _ _ _ _ _⟩
      · refine br_f (tb_ne4 (by omega)) (fy_place hj (nm_r (nI_1 i) (ai_125 Y.1 hm.2 hj (h1 i b ?_ _ _ _ _ _ _ _) e (i + 1) (by omega))))
        exact ⟨by omega, hxc, ⟨by omega, hb, ne, t, t2⟩, hy, hn, fun b' hb' q => hl b' hb' ⟨q.2.2.1, q.2.2.2.2⟩⟩
      · exact br_t rfl (nm_r (nI_1 i) (ih (i + 1) (by omega) (lt_s hn (fun b q => hl b q.2.1 ⟨q.2.2.1, q.2.2.2.2⟩)) _ _ _ _ _ _ _))
    · exact br_t rfl (nm_r (nI_1 i) (ih (i + 1) (by omega) (lt_s hn (fun b q => nt q.2.2.2.1)) _ _ _ _ _ _ _))
theorem ay_117 {post : Int32 → SY → Prop} (TB : tb_ok m P F G K C D) (Y : ty_I m P F G K C D g yP yC yD yF yO yS) (hj : j < 12) (a1 : c ≤ d) (a2 : d ≤ pp) (a3 : pp ≤ 60) (a4 : 60 % pp = 0)
    (h1 : ∀ x i b, ad_Z (tb_T P F G K C D j pp) m c d x i b → ∀ wc wd wp wl wu wn wr,
      post (nI j) (g, upd yP j (nI pp), upd yC j (nI c), upd yD j (nI d), upd yF j (nI x), upd yO j (nI i), upd yS j (nI b), wc, wd, wp, wl, wu, wn, wr))
    (h0 : (∀ x, 1 ≤ x → x < c → ∀ i b, ¬ ad_Q (tb_T P F G K C D j pp) m c d x i b) → ∀ wc wd wp wl wu wn wr, post (-4) (g, yP, yC, yD, yF, yO, yS, wc, wd, wp, wl, wu, wn, wr)) :
    ∀ x, x < c → (∀ y, x < y → y < c → ∀ a b, ¬ ad_Q (tb_T P F G K C D j pp) m c d y a b) → ∀ wc wd wp wl wu wn wr,
      wY_admit_117 post (nI c) (nI d) (nI pp) (nI j) (x + 1) (-4) (nI x) g yP yC yD yF yO yS wc wd wp wl wu wn wr := by
  have hm := TB.1
  intro x
  induction x with
  | zero =>
    intro hx hn wc wd wp wl wu wn wr
    exact pk_le 0 0 (fun _ => br_t rfl (h0 (fun y y1 y2 => hn y (by omega) y2) _ _ _ _ _ _ _)) (fun h => absurd h (by omega))
  | succ x ih =>
    intro hx hn wc wd wp wl wu wn wr
    refine pk_le (x + 1) 0 (fun h => absurd h (by omega)) (fun _ => ⟨m + 1, ?_⟩)
    refine ay_125 TB Y hj a1 a2 a3 a4 hx hn (fun i b Z wc wd wp wl wu wn wr => ?_) (fun hq wc wd wp wl wu wn wr => ?_) m 0 (by omega) (fun b hb => absurd hb (Nat.not_lt_zero b)) _ _ _ _ _ _ _
    · exact ai_117 Y.1 hm.2 hj (h1 (x + 1) i b Z _ _ _ _ _ _ _) x (by omega)
    · refine ih (by omega) (fun y y1 y2 => ?_) _ _ _ _ _ _ _
      by_cases z : y = x + 1
      · rw [z]; exact hq
      · exact hn y (by omega) y2
theorem ay_63 {post : Int32 → SY → Prop} (TB : tb_ok m P F G K C D) (Y : ty_I m P F G K C D g yP yC yD yF yO yS) (hj : j < 12) (a0 : 1 ≤ c) (a1 : c ≤ d) (a2 : d ≤ pp) (a3 : pp ≤ 60) (a4 : 60 % pp = 0)
    (hW : ∀ k, ad_W (tb_T P F G K C D j pp) m c d k → ∀ wc wd wp wl wu wn wr,
      post (nI j) (g, upd yP j (nI pp), upd yC j (nI c), upd yD j (nI d), upd yF j (nI c), upd yO j (nI k), upd yS j (-4), wc, wd, wp, wl, wu, wn, wr))
    (h1 : (∀ k, k < m → ¬ tb_T P F G K C D j pp k c d) → ∀ x i b, ad_Z (tb_T P F G K C D j pp) m c d x i b → ∀ wc wd wp wl wu wn wr,
      post (nI j) (g, upd yP j (nI pp), upd yC j (nI c), upd yD j (nI d), upd yF j (nI x), upd yO j (nI i), upd yS j (nI b), wc, wd, wp, wl, wu, wn, wr))
    (h0 : (∀ k, k < m → ¬ tb_T P F G K C D j pp k c d) → (∀ x, 1 ≤ x → x < c → ∀ i b, ¬ ad_Q (tb_T P F G K C D j pp) m c d x i b) →
      ∀ wc wd wp wl wu wn wr, post (-4) (g, yP, yC, yD, yF, yO, yS, wc, wd, wp, wl, wu, wn, wr)) :
    ∀ e k, k + e = m → (∀ a, a < k → ¬ tb_T P F G K C D j pp a c d) → ∀ wc wd wp wl wu wn wr,
      wY_admit_63 post (nI c) (nI d) (nI pp) (nI j) (e + 1) (-4) (nI k) g yP yC yD yF yO yS wc wd wp wl wu wn wr := by
  have hm := TB.1
  intro e
  induction e with
  | zero =>
    intro k hk hn wc wd wp wl wu wn wr
    have e1 : k = m := by omega
    subst e1
    refine pk_le k k (fun _ => nm_r (e' := nI (c - 1)) (pk_sub (a := c) (b := 1) a0) ⟨c - 1 + 1, ?_⟩) (fun h => absurd h (by omega)) Y.1
    exact ay_117 TB Y hj a1 a2 a3 a4 (h1 hn) (h0 hn) (c - 1) (by omega) (fun y y1 y2 => by omega) _ _ _ _ _ _ _
  | succ e ih =>
    intro k hk hn wc wd wp wl wu wn wr
    refine pk_le m k (fun h => absurd h (by omega)) (fun _ => br_t rfl (fy_takes TB Y (by omega) (by omega) a1 a2 a3 a4 (fun t wc wd wp wl wu wn wr => ?_) (fun nt wc wd wp wl wu wn wr => ?_))) Y.1
    · refine br_f (by decide) (fy_place hj (nm_r (nI_1 k) (ai_63 Y.1 hm.2 hj a0 (by omega) (hW k ⟨by omega, t, hn⟩ _ _ _ _ _ _ _) e (k + 1) (by omega))))
    · exact br_t rfl (nm_r (nI_1 k) (ih (k + 1) (by omega) (lt_s hn nt) _ _ _ _ _ _ _))
end
end
section
/-! a task more, on both programs' fields -/
theorem ad_W_u {T : Nat → Nat → Nat → Prop} {m c d k k' : Nat} (h : ad_W T m c d k) (h' : ad_W T m c d k') : k' = k := by
  rcases Nat.lt_trichotomy k' k with z | z | z
  · exact absurd h'.2.1 (h.2.2 k' z)
  · exact z
  · exact absurd h.2.1 (h'.2.2 k z)
theorem ad_Z_u {T : Nat → Nat → Nat → Prop} {m c d x i j x' i' j' : Nat} (h : ad_Z T m c d x i j) (h' : ad_Z T m c d x' i' j') : x' = x ∧ i' = i ∧ j' = j := by
  obtain ⟨a1, a2, a3, a4, a5, a6⟩ := h
  obtain ⟨b1, b2, b3, b4, b5, b6⟩ := h'
  have ex : x' = x := by
    rcases Nat.lt_trichotomy x' x with z | z | z
    · exact absurd a3 (b4 x z a2 i j)
    · exact z
    · exact absurd b3 (a4 x' z b2 i' j')
  subst ex
  have ei : i' = i := by
    rcases Nat.lt_trichotomy i' i with z | z | z
    · exact absurd b3 (a5 i' z j')
    · exact z
    · exact absurd a3 (b5 i z j)
  subst ei
  have ej : j' = j := by
    rcases Nat.lt_trichotomy j' j with z | z | z
    · exact absurd b3 (a6 j' z)
    · exact z
    · exact absurd a3 (b6 j z)
  exact ⟨rfl, rfl, ej⟩
section
variable {fc fn : Int32} {tp tf ts pc pd pc' pd' : Nat → Int32} {m : Nat} {P F G K C D : Nat → Nat} {j c d pp : Nat}
variable {g : Int32} {yP yC yD yF yO yS : Nat → Int32}
theorem tx_add (X : tx_I m P F G K C D fc fn tp tf ts pc pd) {f h x : Nat} (hj : j < 12) (hP : P j = 0) (hp : 0 < pp)
    (H : ∀ k a, k < 3 → a < 13 → a ≠ j → pc' (k * 13 + a) = pc (k * 13 + a) ∧ pd' (k * 13 + a) = pd (k * 13 + a))
    (Hj : ∀ k, k < 3 → pc' (k * 13 + j) = nI (if f = k then x else if h = k then c - x else 0) ∧
      (f = k → pd' (k * 13 + j) = nI (if h = 3 then d else x)) ∧ (f ≠ k → h = k → pd' (k * 13 + j) = nI (d - x))) {z : Int32} (hz : z = tb_g h) :
    tx_I m (ed_up P j pp) (ed_up F j f) (ed_up G j h) (ed_up K j x) (ed_up C j c) (ed_up D j d) fc (fn + 1) (upd tp j (nI pp)) (upd tf j (nI f)) (upd ts j z) pc' pd' := by
  obtain ⟨x1, x2, x3, x4⟩ := X
  refine ⟨x1, ?_, fun a ha => ?_, fun k a hk ha => ?_⟩
  · rw [x2, nI_1, tb_n_add hP hp hj]
  · by_cases e : a = j
    · subst e
      rw [pk_us, pk_us, pk_us, ed_up_s, ed_up_s, ed_up_s]
      exact ⟨rfl, fun _ => ⟨rfl, hz⟩⟩
    · rw [pk_un e, pk_un e, pk_un e, ed_up_n e, ed_up_n e, ed_up_n e]
      exact x3 a ha
  · by_cases e : a = j
    · subst e
      obtain ⟨g1, g2, g3⟩ := Hj k hk
      have tc : tb_c (ed_up P a pp) (ed_up F a f) (ed_up G a h) (ed_up K a x) (ed_up C a c) k a = if f = k then x else if h = k then c - x else 0 := by
        unfold tb_c
        rw [ed_up_s, ed_up_s, ed_up_s, ed_up_s, ed_up_s, if_neg (by omega)]
      have td : tb_d (ed_up F a f) (ed_up G a h) (ed_up K a x) (ed_up D a d) k a = if f = k then (if h = 3 then d else x) else d - x := by
        unfold tb_d
        rw [ed_up_s, ed_up_s, ed_up_s, ed_up_s]
      rw [tc, td]
      refine ⟨g1, fun w => ?_⟩
      by_cases e1 : f = k
      · rw [if_pos e1]; exact g2 e1
      · rw [if_neg e1] at w ⊢
        by_cases e2 : h = k
        · exact g3 e1 e2
        · rw [if_neg e2] at w; exact absurd w (Nat.lt_irrefl 0)
    · have tc : tb_c (ed_up P j pp) (ed_up F j f) (ed_up G j h) (ed_up K j x) (ed_up C j c) k a = tb_c P F G K C k a := by
        unfold tb_c
        rw [ed_up_n e, ed_up_n e, ed_up_n e, ed_up_n e, ed_up_n e]
      have td : tb_d (ed_up F j f) (ed_up G j h) (ed_up K j x) (ed_up D j d) k a = tb_d F G K D k a := by
        unfold tb_d
        rw [ed_up_n e, ed_up_n e, ed_up_n e, ed_up_n e]
      obtain ⟨g1, g2⟩ := H k a hk ha e
      rw [tc, td, g1, g2]
      exact x4 k a hk ha
theorem tx_zero (X : tx_I m P F G K C D fc fn tp tf ts pc pd) (hj : j < 12) (hP : P j = 0) {k : Nat} (hk : k < 3) : pc (k * 13 + j) = 0 := by
  have h := (X.2.2.2 k j hk (by omega)).1
  have t0 : tb_c P F G K C k j = 0 := if_pos hP
  rw [t0] at h
  exact h
theorem ty_add (Y : ty_I m P F G K C D g yP yC yD yF yO yS) {f h x : Nat} {z : Int32} (hz : z = tb_g h) :
    ty_I m (ed_up P j pp) (ed_up F j f) (ed_up G j h) (ed_up K j x) (ed_up C j c) (ed_up D j d) g
      (upd yP j (nI pp)) (upd yC j (nI c)) (upd yD j (nI d)) (upd yF j (nI x)) (upd yO j (nI f)) (upd yS j z) := by
  refine ⟨Y.1, fun a ha => ?_⟩
  by_cases e : a = j
  · subst e
    rw [pk_us, pk_us, pk_us, pk_us, pk_us, pk_us, ed_up_s, ed_up_s, ed_up_s, ed_up_s, ed_up_s, ed_up_s]
    exact ⟨rfl, fun _ => ⟨rfl, hz, rfl, rfl, rfl⟩⟩
  · rw [pk_un e, pk_un e, pk_un e, pk_un e, pk_un e, pk_un e, ed_up_n e, ed_up_n e, ed_up_n e, ed_up_n e, ed_up_n e, ed_up_n e]
    exact Y.2 a ha
theorem ir_W {n k : Nat} {ac ad ap jl jd lr rs wc wd wp wl wu wn wr : Nat → Int32} (TB : tb_ok m P F G K C D) (X : tx_I m P F G K C D fc fn tp tf ts pc pd) (Y : ty_I m P F G K C D g yP yC yD yF yO yS)
    (hj : j < 12) (hP : P j = 0) (a0 : 1 ≤ c) (a1 : c ≤ d) (a2 : d ≤ pp) (a3 : pp ≤ 60) (a4 : 60 % pp = 0) (W : ad_W (tb_T P F G K C D j pp) m c d k) :
    i_Rel n (fc, fn + 1, upd tp j (nI pp), upd tf j (nI k), upd ts j (-4), upd pc (k * 13 + j) (nI c), upd pd (k * 13 + j) (nI d), ac, ad, ap, jl, jd, lr, rs)
      (g, upd yP j (nI pp), upd yC j (nI c), upd yD j (nI d), upd yF j (nI c), upd yO j (nI k), upd yS j (-4), wc, wd, wp, wl, wu, wn, wr) := by
  have hm := TB.1
  obtain ⟨w1, w2, w3⟩ := W
  have TB' := tb_add TB hj hP (pp := pp) (f := k) (g := 3) (x := c) (c := c) (d := d) (by omega) ⟨a3, a4, w1, a0, a2, a1, Or.inr ⟨rfl, rfl⟩⟩ w2 (fun h => by omega)
  refine ir_mk TB' (tx_add X hj hP (by omega) (fun k' a hk ha e => ⟨pk_un (by omega), pk_un (by omega)⟩) (fun k' hk => ?_) tb_g3.symm) (ty_add Y tb_g3.symm)
  by_cases e : k = k'
  · subst e
    rw [pk_us, pk_us, if_pos rfl]
    exact ⟨rfl, fun _ => rfl, fun h => absurd rfl h⟩
  · rw [pk_un (by omega), pk_un (by omega), if_neg e, if_neg (by omega), tx_zero X hj hP hk]
    exact ⟨rfl, fun h => absurd h e, fun _ h => by omega⟩
theorem ir_Z {n x i b : Nat} {ac ad ap jl jd lr rs wc wd wp wl wu wn wr : Nat → Int32} (TB : tb_ok m P F G K C D) (X : tx_I m P F G K C D fc fn tp tf ts pc pd) (Y : ty_I m P F G K C D g yP yC yD yF yO yS)
    (hj : j < 12) (hP : P j = 0) (a0 : 1 ≤ c) (a1 : c ≤ d) (a2 : d ≤ pp) (a3 : pp ≤ 60) (a4 : 60 % pp = 0) (Z : ad_Z (tb_T P F G K C D j pp) m c d x i b) :
    i_Rel n (fc, fn + 1, upd tp j (nI pp), upd tf j (nI i), upd ts j (nI b), upd (upd pc (i * 13 + j) (nI x)) (b * 13 + j) (nI (c - x)), upd (upd pd (i * 13 + j) (nI x)) (b * 13 + j) (nI (d - x)), ac, ad, ap, jl, jd, lr, rs)
      (g, upd yP j (nI pp), upd yC j (nI c), upd yD j (nI d), upd yF j (nI x), upd yO j (nI i), upd yS j (nI b), wc, wd, wp, wl, wu, wn, wr) := by
  have hm := TB.1
  obtain ⟨w1, w2, ⟨q1, q2, q3, q4, q5⟩, _⟩ := Z
  have b3 : b ≠ 3 := by omega
  have TB' := tb_add TB hj hP (pp := pp) (f := i) (g := b) (x := x) (c := c) (d := d) (by omega) ⟨a3, a4, q1, w1, a2, a1, Or.inl ⟨q2, fun h => q3 h.symm, w2⟩⟩ (by rw [if_neg b3]; exact q4) (fun _ => q5)
  refine ir_mk TB' (tx_add X hj hP (by omega) (fun k' a hk ha e => ⟨by rw [pk_un (by omega), pk_un (by omega)], by rw [pk_un (by omega), pk_un (by omega)]⟩) (fun k' hk => ?_) (tb_gn b3).symm) (ty_add Y (tb_gn b3).symm)
  by_cases e : i = k'
  · subst e
    have u1 : upd (upd pc (i * 13 + j) (nI x)) (b * 13 + j) (nI (c - x)) (i * 13 + j) = nI x := by rw [pk_un (by omega), pk_us]
    have u2 : upd (upd pd (i * 13 + j) (nI x)) (b * 13 + j) (nI (d - x)) (i * 13 + j) = nI x := by rw [pk_un (by omega), pk_us]
    rw [u1, u2, if_pos rfl, if_neg b3]
    exact ⟨rfl, fun _ => rfl, fun h => absurd rfl h⟩
  · by_cases e2 : b = k'
    · subst e2
      rw [pk_us, pk_us, if_neg e, if_pos rfl]
      exact ⟨rfl, fun h => absurd h e, fun _ _ => rfl⟩
    · rw [pk_un (by omega), pk_un (by omega), pk_un (by omega), if_neg e, if_neg e2, tx_zero X hj hP hk]
      exact ⟨rfl, fun h => absurd h e, fun _ h => absurd h e2⟩
end
theorem i_vc_admit {k : Nat} {u : SX} {v : SY} (I : i_Rel k u v) (hk : k + 4 ≤ 2049) (v1 : Int32) (v2 : Int32) (v3 : Int32) : wpX_admit (fun r u' => wpY_admit (fun r' v' => r' = r ∧ i_Rel (k + 4) u' v') v v1 v2 v3) u v1 v2 v3 := by
  have I' := i_up I
  obtain ⟨fc, fn, tp, tf, ts, pc, pd, ac, ad, ap, jl, jd, lr, rs⟩ := u
  obtain ⟨g, yP, yC, yD, yF, yO, yS, wc, wd, wp, wl, wu, wn, wr⟩ := v
  obtain ⟨m, P, F, G, K, C, D, TB, X, Y⟩ := I
  have hm := TB.1
  have hb := sm_Pb TB
  unfold wpX_admit
  rcases sm_per_c v3 with ⟨q, hq, rfl⟩ | hnq
  · refine sm_perX1 hq (br_f (by decide) (br_c (fun h1 => ?_) (fun h1 => br_c (fun h2 => ?_) (fun h2 => br_c (fun h3 => ?_) (fun h3 => ?_)))))
    · unfold wpY_admit
      exact sm_perY1 hq (br_t rfl (br_t h1 ⟨rfl, I'⟩))
    · unfold wpY_admit
      exact sm_perY1 hq (br_t rfl (br_f h1 (br_c (fun _ => ⟨rfl, I'⟩) (fun _ => br_c (fun _ => ⟨rfl, I'⟩) (fun _ => br_t h2 ⟨rfl, I'⟩)))))
    · obtain ⟨q1, q2, q3⟩ := hq
      have hv0 : ¬ v1 < 0 := fun z => h1 (Int32.lt_trans z (by decide))
      obtain ⟨c, hc, rfl⟩ := nI_of hv0
      have c1 : 1 ≤ c := by
        rcases Nat.lt_or_ge c 1 with z | z
        · exact absurd (nI_lt (b := 1) z (by omega)) h1
        · exact z
      have hd0 : ¬ v2 < 0 := fun z => hv0 (Int32.lt_of_le_of_lt h3 z)
      obtain ⟨d, hd, rfl⟩ := nI_of hd0
      have cd : c ≤ d := (nI_leI hc hd).mp h3
      have dq : d ≤ q := by
        rcases Nat.lt_or_ge q d with z | z
        · exact absurd (nI_lt z hd) h2
        · exact z
      have n1 : ¬ nI q < nI c := nI_nlt (by omega) (by omega)
      have n2 : ¬ nI d < 1 := nI_nlt (b := 1) (by omega) (by omega)
      have hle := tb_n_le P 12
      refine pk_lt (tb_n P 12) 12 (fun hn => ?_) (fun hn => ?_) X.2.1
      · obtain ⟨j, hf⟩ := tb_fr_ex P
        have hj := tb_fr_lt hf hn
        have hP : P j = 0 := hf.2.2 hj
        have ent : ∀ {post : Int32 → SY → Prop}, (∃ n63 : Nat, wY_admit_63 post (nI c) (nI d) (nI q) (nI j) n63 (-4) 0 g yP yC yD yF yO yS wc wd wp wl wu wn wr) →
            wpY_admit post (g, yP, yC, yD, yF, yO, yS, wc, wd, wp, wl, wu, wn, wr) (nI c) (nI d) (nI q) := by
          intro post h
          unfold wpY_admit
          exact sm_perY1 ⟨q1, q2, q3⟩ (br_t rfl (br_f h1 (br_f n1 (br_f n2 (br_f h2 (br_t h3 (sm_cntw (P := P) (fun i hi => (Y.2 i hi).1) hb
            (pk_eq (tb_n P 12) 12 (fun z => absurd z (by omega)) (fun _ => sm_frYw Y hb hf h)))))))))
        refine sm_frXw X hb hf (ax_W TB X (by omega) cd dq q2 q3 (fun kk W ac ad ap jl jd lr rs => br_f (by decide) (nm_e ?_)) (fun hnW ac ad ap jl jd lr rs => br_t rfl ?_))
        · refine ent ⟨m + 1, ay_63 TB Y hj c1 cd dq q2 q3 (fun k' W' wc wd wp wl wu wn wr => ?_) (fun n _ _ _ _ => absurd W.2.1 (n kk W.1)) (fun n _ => absurd W.2.1 (n kk W.1)) m 0 (by omega)
            (fun b hb => absurd hb (Nat.not_lt_zero b)) _ _ _ _ _ _ _⟩
          have e := ad_W_u W W'
          subst e
          exact ⟨rfl, ir_W TB X Y hj hP c1 cd dq q2 q3 W⟩
        · refine ax_S TB X (by omega) c1 cd dq q2 q3 (fun x i b Z ac ad ap jl jd lr rs => br_f (by decide) (nm_e ?_)) (fun hnZ ac ad ap jl jd lr rs => br_t rfl ?_)
          · refine ent ⟨m + 1, ay_63 TB Y hj c1 cd dq q2 q3 (fun k' W' => absurd W'.2.1 (hnW k' W'.1)) (fun n x' i' b' Z' wc wd wp wl wu wn wr => ?_)
              (fun n nz => absurd Z.2.2.1 (nz x Z.1 Z.2.1 i b)) m 0 (by omega) (fun b hb => absurd hb (Nat.not_lt_zero b)) _ _ _ _ _ _ _⟩
            obtain ⟨e1, e2, e3⟩ := ad_Z_u Z Z'
            subst e1 e2 e3
            exact ⟨rfl, ir_Z TB X Y hj hP c1 cd dq q2 q3 Z⟩
          · exact ent ⟨m + 1, ay_63 TB Y hj c1 cd dq q2 q3 (fun k' W' => absurd W'.2.1 (hnW k' W'.1)) (fun n x' i' b' Z' => absurd Z'.2.2.1 (hnZ x' Z'.1 Z'.2.1 i' b'))
              (fun n nz wc wd wp wl wu wn wr => ⟨rfl, ir_mk TB X Y⟩) m 0 (by omega) (fun b hb => absurd hb (Nat.not_lt_zero b)) _ _ _ _ _ _ _⟩
      · unfold wpY_admit
        exact sm_perY1 ⟨q1, q2, q3⟩ (br_t rfl (br_f h1 (br_f n1 (br_f n2 (br_f h2 (br_t h3 (sm_cntw (P := P) (fun i hi => (Y.2 i hi).1) hb
          (pk_eq (tb_n P 12) 12 (fun _ => ⟨rfl, I'⟩) (fun z => absurd z (by omega))))))))))
    · unfold wpY_admit
      exact sm_perY1 hq (br_t rfl (br_f h1 (br_c (fun _ => ⟨rfl, I'⟩) (fun _ => br_c (fun _ => ⟨rfl, I'⟩) (fun _ => br_f h2 (br_f h3 ⟨rfl, I'⟩))))))
  · refine sm_perX0 hnq (br_t rfl ?_)
    unfold wpY_admit
    exact sm_perY0 hnq (br_f (by decide) ⟨rfl, I'⟩)
end
