/-! What is looked for, T k x dd: core k doesn't miss with the part (x, dd, p) added -/
def ad_Q (T : Nat → Nat → Nat → Prop) (m c d x i j : Nat) : Prop := i < m ∧ j < m ∧ i ≠ j ∧ T i x x ∧ T j (c - x) (d - x)
theorem ad_greatest (Q : Nat → Prop) : ∀ n, (∃ x, 1 ≤ x ∧ x ≤ n ∧ Q x) → ∃ x, 1 ≤ x ∧ x ≤ n ∧ Q x ∧ ∀ y, x < y → y ≤ n → ¬ Q y := by
  intro n
  induction n with
  | zero => intro h; obtain ⟨x, a, b, _⟩ := h; omega
  | succ n ih =>
    intro h
    by_cases z : Q (n + 1)
    · exact ⟨n + 1, by omega, by omega, z, fun y a b => by omega⟩
    · obtain ⟨x, a, b, q⟩ := h
      have hx : x ≠ n + 1 := fun e => z (by rw [← e]; exact q)
      obtain ⟨x', a', b', q', g⟩ := ih ⟨x, a, by omega, q⟩
      refine ⟨x', a', by omega, q', fun y hy hn => ?_⟩
      by_cases e : y = n + 1
      · rw [e]; exact z
      · exact g y hy (by omega)
/-- whole on core k -/
def ad_W (T : Nat → Nat → Nat → Prop) (m c d k : Nat) : Prop := k < m ∧ T k c d ∧ ∀ k', k' < k → ¬ T k' c d
/-- split: x, i, j -/
def ad_Z (T : Nat → Nat → Nat → Prop) (m c d x i j : Nat) : Prop :=
  1 ≤ x ∧ x < c ∧ ad_Q T m c d x i j ∧ (∀ y, x < y → y < c → ∀ a b, ¬ ad_Q T m c d y a b) ∧ (∀ a, a < i → ∀ b, ¬ ad_Q T m c d x a b) ∧
  (∀ b, b < j → ¬ ad_Q T m c d x i b)
theorem ad_cases (T : Nat → Nat → Nat → Prop) (m c d : Nat) :
    (∃ k, ad_W T m c d k) ∨ ((∀ k, k < m → ¬ T k c d) ∧ ((∃ x i j, ad_Z T m c d x i j) ∨ (∀ x, 1 ≤ x → x < c → ∀ i j, ¬ ad_Q T m c d x i j))) := by
  by_cases h : ∃ k, k < m ∧ T k c d
  · obtain ⟨k, hk, hl⟩ := pk_least (fun k => k < m ∧ T k c d) h
    exact Or.inl ⟨k, hk.1, hk.2, fun a ha ht => hl a ha ⟨by have := hk.1; omega, ht⟩⟩
  · refine Or.inr ⟨fun k hk ht => h ⟨k, hk, ht⟩, ?_⟩
    by_cases g : ∃ x, 1 ≤ x ∧ x ≤ c - 1 ∧ ∃ i j, ad_Q T m c d x i j
    · obtain ⟨x, h1, h2, q, gx⟩ := ad_greatest (fun x => ∃ i j, ad_Q T m c d x i j) (c - 1) g
      obtain ⟨i, qi, gi⟩ := pk_least (fun i => ∃ j, ad_Q T m c d x i j) q
      obtain ⟨j, qj, gj⟩ := pk_least (fun j => ad_Q T m c d x i j) qi
      exact Or.inl ⟨x, i, j, h1, by omega, qj, fun y a b i' j' z => gx y a (by omega) ⟨i', j', z⟩, fun a ha b z => gi a ha ⟨b, z⟩, gj⟩
    · exact Or.inr (fun x h1 h2 i j z => g ⟨x, h1, by omega, i, j, z⟩)
