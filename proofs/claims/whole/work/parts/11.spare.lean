/-! spare -/
section
variable {fc fn : Int32} {tp tf ts pc pd : Nat → Int32} {m : Nat} {P F G K C D : Nat → Nat}
variable {g : Int32} {yP yC yD yF yO yS : Nat → Int32}
theorem sp_X {post : Int32 → SX → Prop} (TB : tb_ok m P F G K C D) (X : tx_I m P F G K C D fc fn tp tf ts pc pd) {k j pp : Nat} (hk : k < m) (hj : j < 13) (hp : sm_per pp)
    (h1 : ∀ y, 1 ≤ y → y ≤ pp → tb_T P F G K C D j pp k y pp → (∀ z, y < z → z ≤ pp → ¬ tb_T P F G K C D j pp k z pp) →
      ∀ ac ad ap jl jd lr rs, post (nI y) (fc, fn, tp, tf, ts, pc, pd, ac, ad, ap, jl, jd, lr, rs))
    (h0 : (∀ y, 1 ≤ y → y ≤ pp → ¬ tb_T P F G K C D j pp k y pp) → ∀ ac ad ap jl jd lr rs, post 0 (fc, fn, tp, tf, ts, pc, pd, ac, ad, ap, jl, jd, lr, rs)) :
    ∀ x, x ≤ pp → (∀ z, x < z → z ≤ pp → ¬ tb_T P F G K C D j pp k z pp) → ∀ ac ad ap jl jd lr rs,
      wX_spare_29 post (nI k) (nI pp) (nI j) (x + 1) (nI x) fc fn tp tf ts pc pd ac ad ap jl jd lr rs := by
  have hp' := hp
  obtain ⟨q1, q2, q3⟩ := hp'
  intro x
  induction x with
  | zero =>
    intro _ hn ac ad ap jl jd lr rs
    exact pk_lt 0 1 (fun _ => h0 (fun y a b => hn y (by omega) b) _ _ _ _ _ _ _) (fun h => absurd h (by omega))
  | succ x ih =>
    intro hx hn ac ad ap jl jd lr rs
    refine pk_lt (x + 1) 1 (fun h => absurd h (by omega)) (fun _ => fx_fits TB X hk hj hx (Nat.le_refl _) q2 q3 (fun t ac ad ap jl jd lr rs => ?_) (fun nt ac ad ap jl jd lr rs => ?_))
    · exact br_f (by decide) (h1 (x + 1) (by omega) hx t hn _ _ _ _ _ _ _)
    · refine br_t rfl (nm_r (pk_m1 x) (ih (by omega) (fun z a b => ?_) _ _ _ _ _ _ _))
      by_cases e : z = x + 1
      · rw [e]; exact nt
      · exact hn z (by omega) b
theorem sp_Y {post : Int32 → SY → Prop} (TB : tb_ok m P F G K C D) (Y : ty_I m P F G K C D g yP yC yD yF yO yS) {k j pp : Nat} (hk : k < m) (hj : j < 13) (hp : sm_per pp)
    (h1 : ∀ y, 1 ≤ y → y ≤ pp → tb_T P F G K C D j pp k y pp → (∀ z, y < z → z ≤ pp → ¬ tb_T P F G K C D j pp k z pp) →
      ∀ wc wd wp wl wu wn wr, post (nI y) (g, yP, yC, yD, yF, yO, yS, wc, wd, wp, wl, wu, wn, wr))
    (h0 : (∀ y, 1 ≤ y → y ≤ pp → ¬ tb_T P F G K C D j pp k y pp) → ∀ wc wd wp wl wu wn wr, post 0 (g, yP, yC, yD, yF, yO, yS, wc, wd, wp, wl, wu, wn, wr)) :
    ∀ x, x ≤ pp → (∀ z, x < z → z ≤ pp → ¬ tb_T P F G K C D j pp k z pp) → ∀ wc wd wp wl wu wn wr,
      wY_spare_29 post (nI k) (nI pp) (nI j) (x + 1) (nI x) g yP yC yD yF yO yS wc wd wp wl wu wn wr := by
  have hp' := hp
  obtain ⟨q1, q2, q3⟩ := hp'
  intro x
  induction x with
  | zero =>
    intro _ hn ac ad ap jl jd lr rs
    exact pk_le 0 0 (fun _ => h0 (fun y a b => hn y (by omega) b) _ _ _ _ _ _ _) (fun h => absurd h (by omega))
  | succ x ih =>
    intro hx hn ac ad ap jl jd lr rs
    refine pk_le (x + 1) 0 (fun h => absurd h (by omega)) (fun _ => fy_takes TB Y hk hj hx (Nat.le_refl _) q2 q3 (fun t ac ad ap jl jd lr rs => ?_) (fun nt ac ad ap jl jd lr rs => ?_))
    · exact br_f (by decide) (h1 (x + 1) (by omega) hx t hn _ _ _ _ _ _ _)
    · refine br_t rfl (nm_r (pk_m1 x) (ih (by omega) (fun z a b => ?_) _ _ _ _ _ _ _))
      by_cases e : z = x + 1
      · rw [e]; exact nt
      · exact hn z (by omega) b
end
theorem i_vc_spare {k : Nat} {u : SX} {v : SY} (I : i_Rel k u v) (hk : k + 4 ≤ 2049) (v1 : Int32) (v2 : Int32) : wpX_spare (fun r u' => wpY_spare (fun r' v' => r' = r ∧ i_Rel (k + 4) u' v') v v1 v2) u v1 v2 := by
  have I' := i_up I
  obtain ⟨fc, fn, tp, tf, ts, pc, pd, ac, ad, ap, jl, jd, lr, rs⟩ := u
  obtain ⟨g, yP, yC, yD, yF, yO, yS, wc, wd, wp, wl, wu, wn, wr⟩ := v
  obtain ⟨m, P, F, G, K, C, D, TB, X, Y⟩ := I
  have hm := TB.1
  have hb := sm_Pb TB
  unfold wpX_spare wpY_spare
  rcases sm_ix_c v1 (fun q => q < m) with ⟨c, hc, rfl⟩ | hn
  · rcases sm_per_c v2 with ⟨q, hq, rfl⟩ | hnq
    · obtain ⟨j, hf⟩ := tb_fr_ex P
      have hj : j < 13 := by have := hf.1; omega
      refine sm_crX1 X hm.2 hc (br_f (by decide) (sm_perX1 hq (br_f (by decide) (sm_frXw X hb hf ⟨q + 1, sp_X TB X hc hj hq (fun y y1 y2 t n ac ad ap jl jd lr rs => ?_)
        (fun n ac ad ap jl jd lr rs => ?_) q (Nat.le_refl _) (fun z a b => by omega) _ _ _ _ _ _ _⟩))))
      · refine sm_crY1 Y hm.2 hc (br_t rfl (sm_perY1 hq (br_t rfl (sm_frYw Y hb hf ⟨q + 1, sp_Y TB Y hc hj hq (fun y' y1' y2' t' n' wc wd wp wl wu wn wr => ?_)
          (fun n' wc wd wp wl wu wn wr => absurd t (n' y y1 y2)) q (Nat.le_refl _) (fun z a b => by omega) _ _ _ _ _ _ _⟩))))
        have e : y' = y := by
          rcases Nat.lt_trichotomy y' y with z | z | z
          · exact absurd t (n' y z y2)
          · exact z
          · exact absurd t' (n y' z y2')
        exact ⟨congrArg nI e, ir_mk TB X Y⟩
      · exact sm_crY1 Y hm.2 hc (br_t rfl (sm_perY1 hq (br_t rfl (sm_frYw Y hb hf ⟨q + 1, sp_Y TB Y hc hj hq (fun y' y1' y2' t' n' wc wd wp wl wu wn wr => absurd t' (n y' y1' y2'))
          (fun n' wc wd wp wl wu wn wr => ⟨rfl, ir_mk TB X Y⟩) q (Nat.le_refl _) (fun z a b => by omega) _ _ _ _ _ _ _⟩))))
    · exact sm_crX1 X hm.2 hc (br_f (by decide) (sm_perX0 hnq (br_t rfl (sm_crY1 Y hm.2 hc (br_t rfl (sm_perY0 hnq (br_f (by decide) ⟨rfl, I'⟩)))))))
  · exact sm_crX0 X hm.2 hn (br_t rfl (sm_crY0 Y hm.2 hn (br_f (by decide) ⟨rfl, I'⟩)))
