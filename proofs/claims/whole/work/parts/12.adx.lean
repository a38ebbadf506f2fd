/-! a task placed, the first program: whole on a core, or split -/
section
variable {fc fn : Int32} {tp tf ts pc pd : Nat → Int32} {m : Nat} {P F G K C D : Nat → Nat} {j c d pp : Nat}
theorem ax_W_l {post : Int32 → SX → Prop} (TB : tb_ok m P F G K C D) (X : tx_I m P F G K C D fc fn tp tf ts pc pd) (hj : j < 13) (a1 : c ≤ d) (a2 : d ≤ pp) (a3 : pp ≤ 60) (a4 : 60 % pp = 0)
    (h1 : ∀ k, ad_W (tb_T P F G K C D j pp) m c d k → ∀ ac ad ap jl jd lr rs,
      post 1 (fc, fn, upd tp j (nI pp), upd tf j (nI k), upd ts j (-4), upd pc (k * 13 + j) (nI c), upd pd (k * 13 + j) (nI d), ac, ad, ap, jl, jd, lr, rs))
    (h0 : (∀ k, k < m → ¬ tb_T P F G K C D j pp k c d) → ∀ ac ad ap jl jd lr rs, post 0 (fc, fn, tp, tf, ts, pc, pd, ac, ad, ap, jl, jd, lr, rs)) :
    ∀ e k, k + e = m → (∀ a, a < k → ¬ tb_T P F G K C D j pp a c d) → ∀ ac ad ap jl jd lr rs,
      wX_placeWhole_3 post (nI j) (nI c) (nI d) (nI pp) (e + 1) (nI k) fc fn tp tf ts pc pd ac ad ap jl jd lr rs := by
  have hm := TB.1
  intro e
  induction e with
  | zero =>
    intro k hk hn ac ad ap jl jd lr rs
    have e1 : k = m := by omega
    subst e1
    exact pk_le k k (fun _ => h0 hn _ _ _ _ _ _ _) (fun h => absurd h (by omega)) X.1
  | succ e ih =>
    intro k hk hn ac ad ap jl jd lr rs
    refine pk_le m k (fun h => absurd h (by omega)) (fun _ => fx_fits TB X (by omega) hj a1 a2 a3 a4 (fun t ac ad ap jl jd lr rs => ?_) (fun nt ac ad ap jl jd lr rs => ?_)) X.1
    · exact br_f (by decide) (fx_setTask hj (fx_setPart (by omega) hj (h1 k ⟨by omega, t, hn⟩ _ _ _ _ _ _ _)))
    · exact br_t rfl (nm_r (nI_1 k) (ih (k + 1) (by omega) (lt_s hn nt) _ _ _ _ _ _ _))
theorem ax_26 {post : Int32 → SX → Prop} {J5 J14 : Int32 → Int32 → Int32 → (Nat → Int32) → (Nat → Int32) → (Nat → Int32) → (Nat → Int32) → (Nat → Int32) → (Nat → Int32) → (Nat → Int32) → (Nat → Int32) → (Nat → Int32) → (Nat → Int32) → (Nat → Int32) → (Nat → Int32) → Prop}
    (TB : tb_ok m P F G K C D) (X : tx_I m P F G K C D fc fn tp tf ts pc pd) (hj : j < 13) (a1 : c ≤ d) (a2 : d ≤ pp) (a3 : pp ≤ 60) (a4 : 60 % pp = 0)
    (h1 : ∀ x i b, ad_Z (tb_T P F G K C D j pp) m c d x i b → ∀ ac ad ap jl jd lr rs,
      post 1 (fc, fn, upd tp j (nI pp), upd tf j (nI i), upd ts j (nI b), upd (upd pc (i * 13 + j) (nI x)) (b * 13 + j) (nI (c - x)), upd (upd pd (i * 13 + j) (nI x)) (b * 13 + j) (nI (d - x)), ac, ad, ap, jl, jd, lr, rs))
    {x i : Nat} (hx : 1 ≤ x) (hxc : x < c) (hi : i < m)
    (hy : ∀ y, x < y → y < c → ∀ a b, ¬ ad_Q (tb_T P F G K C D j pp) m c d y a b) (ha : ∀ a, a < i → ∀ b, ¬ ad_Q (tb_T P F G K C D j pp) m c d x a b)
    (hJ : (∀ b, ¬ ad_Q (tb_T P F G K C D j pp) m c d x i b) → ∀ ac ad ap jl jd lr rs, J14 (nI (i + 1)) fc fn tp tf ts pc pd ac ad ap jl jd lr rs) :
    ∀ e b, b + e = m → (∀ b', b' < b → ¬ ad_Q (tb_T P F G K C D j pp) m c d x i b') → ∀ ac ad ap jl jd lr rs,
      wX_placeSplit_26 post J5 J14 (nI j) (nI c) (nI d) (nI pp) (nI x) (nI i) (e + 1) (nI b) fc fn tp tf ts pc pd ac ad ap jl jd lr rs := by
  have hm := TB.1
  intro e
  induction e with
  | zero =>
    intro b hb hn ac ad ap jl jd lr rs
    have e1 : b = m := by omega
    subst e1
    exact pk_le b b (fun _ => nm_r (nI_1 i) (hJ (fun b' q => hn b' q.2.1 q) _ _ _ _ _ _ _)) (fun h => absurd h (by omega)) X.1
  | succ e ih =>
    intro b hb hn ac ad ap jl jd lr rs
    refine pk_le m b (fun h => absurd h (by omega)) (fun _ => pk_eq i b (fun z => ?_) (fun z => ?_)) X.1
    · exact nm_r (nI_1 b) (ih (b + 1) (by omega) (lt_s hn (fun q => q.2.2.1 z)) _ _ _ _ _ _ _)
    · refine fx_fits TB X hi hj (Nat.le_refl x) (by omega) a3 a4 (fun t ac ad ap jl jd lr rs => br_f (by decide) ?_) (fun nt ac ad ap jl jd lr rs => ?_)
      · rw [pk_sub (a := c) (b := x) (by omega), pk_sub (a := d) (b := x) (by omega)]
        refine fx_fits TB X (by omega) hj (by omega) (by omega) a3 a4 (fun t2 ac ad ap jl jd lr rs => ?_) (fun nt ac ad ap jl jd lr rs => ?_)
        · refine br_f (by decide) (fx_setTask hj (fx_setPart (by omega) hj (fx_setPart (by omega) hj (h1 x i b ?_ _ _ _ _ _ _ _))))
          exact ⟨hx, hxc, ⟨hi, by omega, z, t, t2⟩, hy, ha, hn⟩
        · exact br_t rfl (nm_r (nI_1 b) (ih (b + 1) (by omega) (lt_s hn (fun q => nt q.2.2.2.2)) _ _ _ _ _ _ _))
      · exact br_t rfl (nm_r (nI_1 b) (ih (b + 1) (by omega) (lt_s hn (fun q => nt q.2.2.2.1)) _ _ _ _ _ _ _))
theorem ax_14 {post : Int32 → SX → Prop} {J5 : Int32 → Int32 → Int32 → (Nat → Int32) → (Nat → Int32) → (Nat → Int32) → (Nat → Int32) → (Nat → Int32) → (Nat → Int32) → (Nat → Int32) → (Nat → Int32) → (Nat → Int32) → (Nat → Int32) → (Nat → Int32) → (Nat → Int32) → Prop}
    (TB : tb_ok m P F G K C D) (X : tx_I m P F G K C D fc fn tp tf ts pc pd) (hj : j < 13) (a1 : c ≤ d) (a2 : d ≤ pp) (a3 : pp ≤ 60) (a4 : 60 % pp = 0)
    (h1 : ∀ x i b, ad_Z (tb_T P F G K C D j pp) m c d x i b → ∀ ac ad ap jl jd lr rs,
      post 1 (fc, fn, upd tp j (nI pp), upd tf j (nI i), upd ts j (nI b), upd (upd pc (i * 13 + j) (nI x)) (b * 13 + j) (nI (c - x)), upd (upd pd (i * 13 + j) (nI x)) (b * 13 + j) (nI (d - x)), ac, ad, ap, jl, jd, lr, rs))
    {x : Nat} (hxc : x + 1 < c)
    (hy : ∀ y, x + 1 < y → y < c → ∀ a b, ¬ ad_Q (tb_T P F G K C D j pp) m c d y a b)
    (hJ : (∀ a b, ¬ ad_Q (tb_T P F G K C D j pp) m c d (x + 1) a b) → ∀ ac ad ap jl jd lr rs, J5 (nI x) fc fn tp tf ts pc pd ac ad ap jl jd lr rs) :
    ∀ e i, i + e = m → (∀ a, a < i → ∀ b, ¬ ad_Q (tb_T P F G K C D j pp) m c d (x + 1) a b) → ∀ ac ad ap jl jd lr rs,
      wX_placeSplit_14 post J5 (nI j) (nI c) (nI d) (nI pp) (nI (x + 1)) (e + 1) (nI i) fc fn tp tf ts pc pd ac ad ap jl jd lr rs := by
  have hm := TB.1
  intro e
  induction e with
  | zero =>
    intro i hi hn ac ad ap jl jd lr rs
    have e1 : i = m := by omega
    subst e1
    exact pk_le i i (fun _ => nm_r (pk_m1 x) (hJ (fun a b q => hn a q.1 b q) _ _ _ _ _ _ _)) (fun h => absurd h (by omega)) X.1
  | succ e ih =>
    intro i hi hn ac ad ap jl jd lr rs
    refine pk_le m i (fun h => absurd h (by omega)) (fun _ => ⟨m + 1, ?_⟩) X.1
    refine ax_26 TB X hj a1 a2 a3 a4 h1 (by omega) hxc (by omega) hy hn (fun hb ac ad ap jl jd lr rs => ?_) m 0 (by omega) (fun b hb => absurd hb (Nat.not_lt_zero b)) _ _ _ _ _ _ _
    exact ih (i + 1) (by omega) (lt_s hn hb) _ _ _ _ _ _ _
theorem ax_5 {post : Int32 → SX → Prop} (TB : tb_ok m P F G K C D) (X : tx_I m P F G K C D fc fn tp tf ts pc pd) (hj : j < 13) (a1 : c ≤ d) (a2 : d ≤ pp) (a3 : pp ≤ 60) (a4 : 60 % pp = 0)
    (h1 : ∀ x i b, ad_Z (tb_T P F G K C D j pp) m c d x i b → ∀ ac ad ap jl jd lr rs,
      post 1 (fc, fn, upd tp j (nI pp), upd tf j (nI i), upd ts j (nI b), upd (upd pc (i * 13 + j) (nI x)) (b * 13 + j) (nI (c - x)), upd (upd pd (i * 13 + j) (nI x)) (b * 13 + j) (nI (d - x)), ac, ad, ap, jl, jd, lr, rs))
    (h0 : (∀ x, 1 ≤ x → x < c → ∀ i b, ¬ ad_Q (tb_T P F G K C D j pp) m c d x i b) → ∀ ac ad ap jl jd lr rs, post 0 (fc, fn, tp, tf, ts, pc, pd, ac, ad, ap, jl, jd, lr, rs)) :
    ∀ x, x < c → (∀ y, x < y → y < c → ∀ a b, ¬ ad_Q (tb_T P F G K C D j pp) m c d y a b) → ∀ ac ad ap jl jd lr rs,
      wX_placeSplit_5 post (nI j) (nI c) (nI d) (nI pp) (x + 1) (nI x) fc fn tp tf ts pc pd ac ad ap jl jd lr rs := by
  intro x
  induction x with
  | zero =>
    intro hx hn ac ad ap jl jd lr rs
    exact pk_lt 0 1 (fun _ => h0 (fun y y1 y2 => hn y (by omega) y2) _ _ _ _ _ _ _) (fun h => absurd h (by omega))
  | succ x ih =>
    intro hx hn ac ad ap jl jd lr rs
    refine pk_lt (x + 1) 1 (fun h => absurd h (by omega)) (fun _ => ⟨m + 1, ?_⟩)
    refine ax_14 TB X hj a1 a2 a3 a4 h1 hx hn (fun hq ac ad ap jl jd lr rs => ?_) m 0 (by omega) (fun b hb => absurd hb (Nat.not_lt_zero b)) _ _ _ _ _ _ _
    refine ih (by omega) (fun y y1 y2 => ?_) _ _ _ _ _ _ _
    by_cases z : y = x + 1
    · rw [z]; exact hq
    · exact hn y (by omega) y2
theorem ax_W {post : Int32 → SX → Prop} {ac ad ap jl jd lr rs : Nat → Int32} (TB : tb_ok m P F G K C D) (X : tx_I m P F G K C D fc fn tp tf ts pc pd) (hj : j < 13) (a1 : c ≤ d) (a2 : d ≤ pp) (a3 : pp ≤ 60) (a4 : 60 % pp = 0)
    (h1 : ∀ k, ad_W (tb_T P F G K C D j pp) m c d k → ∀ ac ad ap jl jd lr rs,
      post 1 (fc, fn, upd tp j (nI pp), upd tf j (nI k), upd ts j (-4), upd pc (k * 13 + j) (nI c), upd pd (k * 13 + j) (nI d), ac, ad, ap, jl, jd, lr, rs))
    (h0 : (∀ k, k < m → ¬ tb_T P F G K C D j pp k c d) → ∀ ac ad ap jl jd lr rs, post 0 (fc, fn, tp, tf, ts, pc, pd, ac, ad, ap, jl, jd, lr, rs)) :
    wpX_placeWhole post (fc, fn, tp, tf, ts, pc, pd, ac, ad, ap, jl, jd, lr, rs) (nI j) (nI c) (nI d) (nI pp) :=
  ⟨m + 1, ax_W_l TB X hj a1 a2 a3 a4 h1 h0 m 0 (by omega) (fun b hb => absurd hb (Nat.not_lt_zero b)) _ _ _ _ _ _ _⟩
theorem ax_S {post : Int32 → SX → Prop} {ac ad ap jl jd lr rs : Nat → Int32} (TB : tb_ok m P F G K C D) (X : tx_I m P F G K C D fc fn tp tf ts pc pd) (hj : j < 13) (a0 : 1 ≤ c) (a1 : c ≤ d) (a2 : d ≤ pp) (a3 : pp ≤ 60) (a4 : 60 % pp = 0)
    (h1 : ∀ x i b, ad_Z (tb_T P F G K C D j pp) m c d x i b → ∀ ac ad ap jl jd lr rs,
      post 1 (fc, fn, upd tp j (nI pp), upd tf j (nI i), upd ts j (nI b), upd (upd pc (i * 13 + j) (nI x)) (b * 13 + j) (nI (c - x)), upd (upd pd (i * 13 + j) (nI x)) (b * 13 + j) (nI (d - x)), ac, ad, ap, jl, jd, lr, rs))
    (h0 : (∀ x, 1 ≤ x → x < c → ∀ i b, ¬ ad_Q (tb_T P F G K C D j pp) m c d x i b) → ∀ ac ad ap jl jd lr rs, post 0 (fc, fn, tp, tf, ts, pc, pd, ac, ad, ap, jl, jd, lr, rs)) :
    wpX_placeSplit post (fc, fn, tp, tf, ts, pc, pd, ac, ad, ap, jl, jd, lr, rs) (nI j) (nI c) (nI d) (nI pp) :=
  nm_r (e' := nI (c - 1)) (pk_sub (a := c) (b := 1) a0) ⟨c - 1 + 1, ax_5 TB X hj a1 a2 a3 a4 h1 h0 (c - 1) (by omega) (fun y y1 y2 => by omega) _ _ _ _ _ _ _⟩
end
