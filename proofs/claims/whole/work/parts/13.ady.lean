/-! a task placed, the second program -/
section
variable {g : Int32} {yP yC yD yF yO yS : Nat → Int32} {m : Nat} {P F G K C D : Nat → Nat} {j c d pp : Nat}
theorem fy_place {post : Int32 → SY → Prop} {wc wd wp wl wu wn wr : Nat → Int32} {i : Nat} (hi : i < 12) {x a b : Int32}
    (H : post (nI i) (g, yP, yC, yD, upd yF i x, upd yO i a, upd yS i b, wc, wd, wp, wl, wu, wn, wr)) :
    wpY_place post (g, yP, yC, yD, yF, yO, yS, wc, wd, wp, wl, wu, wn, wr) (nI i) x a b := by
  have hc : (nI i).toNatClampNeg = i := nI_clamp (by omega)
  have hin : vp_in (nI i) 12 := vp_in_nI (by omega) (by omega)
  refine ⟨hin, fun a1 e1 => ⟨hin, fun a2 e2 => ⟨hin, fun a3 e3 => ?_⟩⟩⟩
  rw [hc] at e1 e2 e3
  subst e1 e2 e3
  exact H
/-! the idle rounds behind a place found -/
theorem ai_125 {post : Int32 → SY → Prop} {J : Int32 → Int32 → Int32 → (Nat → Int32) → (Nat → Int32) → (Nat → Int32) → (Nat → Int32) → (Nat → Int32) → (Nat → Int32) → (Nat → Int32) → (Nat → Int32) → (Nat → Int32) → (Nat → Int32) → (Nat → Int32) → (Nat → Int32) → (Nat → Int32) → Prop}
    {wc wd wp wl wu wn wr : Nat → Int32} (hg : g = nI m) (hm : m ≤ 3) (hj : j < 12) {x : Nat} {z1 z2 z3 : Int32}
    (H : J (nI j) (nI x) g yP yC yD yF yO yS wc wd wp wl wu wn wr) :
    ∀ e i, i + e = m → wY_admit_125 post J z1 z2 z3 (nI j) (nI (x + 1)) (e + 1) (nI j) (nI i) g yP yC yD yF yO yS wc wd wp wl wu wn wr := by
  intro e
  induction e with
  | zero =>
    intro i hi
    have e1 : i = m := by omega
    subst e1
    exact pk_le i i (fun _ => nm_r (pk_m1 x) H) (fun h => absurd h (by omega)) hg
  | succ e ih =>
    intro i hi
    exact pk_le m i (fun h => absurd h (by omega)) (fun _ => br_f (tb_ne4 (by omega)) (nm_r (nI_1 i) (ih (i + 1) (by omega)))) hg
theorem ai_117 {post : Int32 → SY → Prop} {wc wd wp wl wu wn wr : Nat → Int32} (hg : g = nI m) (hm : m ≤ 3) (hj : j < 12)
    (H : post (nI j) (g, upd yP j (nI pp), upd yC j (nI c), upd yD j (nI d), yF, yO, yS, wc, wd, wp, wl, wu, wn, wr)) :
    ∀ x, x ≤ 60 → wY_admit_117 post (nI c) (nI d) (nI pp) (nI j) (x + 1) (nI j) (nI x) g yP yC yD yF yO yS wc wd wp wl wu wn wr := by
  have hc : (nI j).toNatClampNeg = j := nI_clamp (by omega)
  have hin : vp_in (nI j) 12 := vp_in_nI (by omega) (by omega)
  intro x
  induction x with
  | zero =>
    intro _
    refine pk_le 0 0 (fun _ => br_f (tb_ne4 (by omega)) ⟨hin, fun a1 e1 => ⟨hin, fun a2 e2 => ⟨hin, fun a3 e3 => ?_⟩⟩⟩) (fun h => absurd h (by omega))
    rw [hc] at e1 e2 e3
    subst e1 e2 e3
    exact H
  | succ x ih =>
    intro hx
    exact pk_le (x + 1) 0 (fun h => absurd h (by omega)) (fun _ => ⟨m + 1, ai_125 hg hm hj (ih (by omega)) m 0 (by omega)⟩)
theorem ai_63 {post : Int32 → SY → Prop} {wc wd wp wl wu wn wr : Nat → Int32} (hg : g = nI m) (hm : m ≤ 3) (hj : j < 12) (a0 : 1 ≤ c) (hc60 : c ≤ 60)
    (H : post (nI j) (g, upd yP j (nI pp), upd yC j (nI c), upd yD j (nI d), yF, yO, yS, wc, wd, wp, wl, wu, wn, wr)) :
    ∀ e i, i + e = m → wY_admit_63 post (nI c) (nI d) (nI pp) (nI j) (e + 1) (nI j) (nI i) g yP yC yD yF yO yS wc wd wp wl wu wn wr := by
  intro e
  induction e with
  | zero =>
    intro i hi
    have e1 : i = m := by omega
    subst e1
    exact pk_le i i (fun _ => nm_r (e' := nI (c - 1)) (pk_sub (a := c) (b := 1) a0) ⟨c - 1 + 1, ai_117 hg hm hj H (c - 1) (by omega)⟩) (fun h => absurd h (by omega)) hg
  | succ e ih =>
    intro i hi
    exact pk_le m i (fun h => absurd h (by omega)) (fun _ => br_f (tb_ne4 (by omega)) (nm_r (nI_1 i) (ih (i + 1) (by omega)))) hg
theorem ay_sec_l {post : Int32 → SY → Prop} (TB : tb_ok m P F G K C D) (Y : ty_I m P F G K C D g yP yC yD yF yO yS) (hj : j < 13) {x dd i : Nat} (hi : i < m) (a1 : x ≤ dd) (a2 : dd ≤ pp) (a3 : pp ≤ 60) (a4 : 60 % pp = 0)
    (h1 : ∀ b, b < m → i ≠ b → tb_T P F G K C D j pp b x dd → (∀ b', b' < b → ¬ (i ≠ b' ∧ tb_T P F G K C D j pp b' x dd)) →
      ∀ wc wd wp wl wu wn wr, post (nI b) (g, yP, yC, yD, yF, yO, yS, wc, wd, wp, wl, wu, wn, wr))
    (h0 : (∀ b', b' < m → ¬ (i ≠ b' ∧ tb_T P F G K C D j pp b' x dd)) → ∀ wc wd wp wl wu wn wr, post (-4) (g, yP, yC, yD, yF, yO, yS, wc, wd, wp, wl, wu, wn, wr)) :
    ∀ e b, b + e = m → (∀ b', b' < b → ¬ (i ≠ b' ∧ tb_T P F G K C D j pp b' x dd)) → ∀ wc wd wp wl wu wn wr,
      wY_second_3 post (nI i) (nI j) (nI x) (nI dd) (nI pp) (e + 1) (nI b) g yP yC yD yF yO yS wc wd wp wl wu wn wr := by
  have hm := TB.1
  intro e
  induction e with
  | zero =>
    intro b hb hn wc wd wp wl wu wn wr
    have e1 : b = m := by omega
    subst e1
    exact pk_le b b (fun _ => h0 hn _ _ _ _ _ _ _) (fun h => absurd h (by omega)) Y.1
  | succ e ih =>
    intro b hb hn wc wd wp wl wu wn wr
    refine pk_le m b (fun h => absurd h (by omega)) (fun _ => pk_eq b i (fun z => ?_) (fun z => ?_)) Y.1
    · exact nm_r (nI_1 b) (ih (b + 1) (by omega) (lt_s hn (fun q => q.1 z.symm)) _ _ _ _ _ _ _)
    · refine fy_takes TB Y (by omega) hj a1 a2 a3 a4 (fun t wc wd wp wl wu wn wr => ?_) (fun nt wc wd wp wl wu wn wr => ?_)
      · exact br_f (by decide) (h1 b (by omega) (fun h => z h.symm) t hn _ _ _ _ _ _ _)
      · exact br_t rfl (nm_r (nI_1 b) (ih (b + 1) (by omega) (lt_s hn (fun q => nt q.2)) _ _ _ _ _ _ _))
theorem ay_125 {post : Int32 → SY → Prop} {J : Int32 → Int32 → Int32 → (Nat → Int32) → (Nat → Int32) → (Nat → Int32) → (Nat → Int32) → (Nat → Int32) → (Nat → Int32) → (Nat → Int32) → (Nat → Int32) → (Nat → Int32) → (Nat → Int32) → (Nat → Int32) → (Nat → Int32) → (Nat → Int32) → Prop}
    (TB : tb_ok m P F G K C D) (Y : ty_I m P F G K C D g yP yC yD yF yO yS) (hj : j < 12) (a1 : c ≤ d) (a2 : d ≤ pp) (a3 : pp ≤ 60) (a4 : 60 % pp = 0)
    {x : Nat} (hxc : x + 1 < c)
    (hy : ∀ y, x + 1 < y → y < c → ∀ a b, ¬ ad_Q (tb_T P F G K C D j pp) m c d y a b)
    (h1 : ∀ i b, ad_Z (tb_T P F G K C D j pp) m c d (x + 1) i b → ∀ wc wd wp wl wu wn wr,
      J (nI j) (nI x) g yP yC yD (upd yF j (nI (x + 1))) (upd yO j (nI i)) (upd yS j (nI b)) wc wd wp wl wu wn wr)
    (h0 : (∀ a b, ¬ ad_Q (tb_T P F G K C D j pp) m c d (x + 1) a b) → ∀ wc wd wp wl wu wn wr, J (-4) (nI x) g yP yC yD yF yO yS wc wd wp wl wu wn wr) :
    ∀ e i, i + e = m → (∀ a, a < i → ∀ b, ¬ ad_Q (tb_T P F G K C D j pp) m c d (x + 1) a b) → ∀ wc wd wp wl wu wn wr,
      wY_admit_125 post J (nI c) (nI d) (nI pp) (nI j) (nI (x + 1)) (e + 1) (-4) (nI i) g yP yC yD yF yO yS wc wd wp wl wu wn wr := by
  have hm := TB.1
  intro e
  induction e with
  | zero =>
    intro i hi hn wc wd wp wl wu wn wr
    have e1 : i = m := by omega
    subst e1
    exact pk_le i i (fun _ => nm_r (pk_m1 x) (h0 (fun a b q => hn a q.1 b q) _ _ _ _ _ _ _)) (fun h => absurd h (by omega)) Y.1
  | succ e ih =>
    intro i hi hn wc wd wp wl wu wn wr
    refine pk_le m i (fun h => absurd h (by omega)) (fun _ => br_t rfl (fy_takes TB Y (by omega) (by omega) (Nat.le_refl (x + 1)) (by omega) a3 a4 (fun t wc wd wp wl wu wn wr => br_f (by decide) ?_) (fun nt wc wd wp wl wu wn wr => ?_))) Y.1
    · rw [pk_sub (a := c) (b := x + 1) (by omega), pk_sub (a := d) (b := x + 1) (by omega)]
      refine ⟨m + 1, ay_sec_l TB Y (by omega) (i := i) (by omega) (by omega) (by omega) a3 a4 (fun b hb ne t2 hl wc wd wp wl wu wn wr => ?_) (fun hl wc wd wp wl wu wn wr => ?_) m 0 (by omega)
        (fun b hb => absurd hb (Nat.not_lt_zero b)) _ _ _ _ _ _ _⟩
      · refine br_f (tb_ne4 (by omega)) (fy_place hj (nm_r (nI_1 i) (ai_125 Y.1 hm.2 hj (h1 i b ?_ _ _ _ _ _ _ _) e (i + 1) (by omega))))
        exact ⟨by omega, hxc, ⟨by omega, hb, ne, t, t2⟩, hy, hn, fun b' hb' q => hl b' hb' ⟨q.2.2.1, q.2.2.2.2⟩⟩
      · exact br_t rfl (nm_r (nI_1 i) (ih (i + 1) (by omega) (lt_s hn (fun b q => hl b q.2.1 ⟨q.2.2.1, q.2.2.2.2⟩)) _ _ _ _ _ _ _))
    · exact br_t rfl (nm_r (nI_1 i) (ih (i + 1) (by omega) (lt_s hn (fun b q => nt q.2.2.2.1)) _ _ _ _ _ _ _))
theorem ay_117 {post : Int32 → SY → Prop} (TB : tb_ok m P F G K C D) (Y : ty_I m P F G K C D g yP yC yD yF yO yS) (hj : j < 12) (a1 : c ≤ d) (a2 : d ≤ pp) (a3 : pp ≤ 60) (a4 : 60 % pp = 0)
    (h1 : ∀ x i b, ad_Z (tb_T P F G K C D j pp) m c d x i b → ∀ wc wd wp wl wu wn wr,
      post (nI j) (g, upd yP j (nI pp), upd yC j (nI c), upd yD j (nI d), upd yF j (nI x), upd yO j (nI i), upd yS j (nI b), wc, wd, wp, wl, wu, wn, wr))
    (h0 : (∀ x, 1 ≤ x → x < c → ∀ i b, ¬ ad_Q (tb_T P F G K C D j pp) m c d x i b) → ∀ wc wd wp wl wu wn wr, post (-4) (g, yP, yC, yD, yF, yO, yS, wc, wd, wp, wl, wu, wn, wr)) :
    ∀ x, x < c → (∀ y, x < y → y < c → ∀ a b, ¬ ad_Q (tb_T P F G K C D j pp) m c d y a b) → ∀ wc wd wp wl wu wn wr,
      wY_admit_117 post (nI c) (nI d) (nI pp) (nI j) (x + 1) (-4) (nI x) g yP yC yD yF yO yS wc wd wp wl wu wn wr := by
  have hm := TB.1
  intro x
  induction x with
  | zero =>
    intro hx hn wc wd wp wl wu wn wr
    exact pk_le 0 0 (fun _ => br_t rfl (h0 (fun y y1 y2 => hn y (by omega) y2) _ _ _ _ _ _ _)) (fun h => absurd h (by omega))
  | succ x ih =>
    intro hx hn wc wd wp wl wu wn wr
    refine pk_le (x + 1) 0 (fun h => absurd h (by omega)) (fun _ => ⟨m + 1, ?_⟩)
    refine ay_125 TB Y hj a1 a2 a3 a4 hx hn (fun i b Z wc wd wp wl wu wn wr => ?_) (fun hq wc wd wp wl wu wn wr => ?_) m 0 (by omega) (fun b hb => absurd hb (Nat.not_lt_zero b)) _ _ _ _ _ _ _
    · exact ai_117 Y.1 hm.2 hj (h1 (x + 1) i b Z _ _ _ _ _ _ _) x (by omega)
    · refine ih (by omega) (fun y y1 y2 => ?_) _ _ _ _ _ _ _
      by_cases z : y = x + 1
      · rw [z]; exact hq
      · exact hn y (by omega) y2
theorem ay_63 {post : Int32 → SY → Prop} (TB : tb_ok m P F G K C D) (Y : ty_I m P F G K C D g yP yC yD yF yO yS) (hj : j < 12) (a0 : 1 ≤ c) (a1 : c ≤ d) (a2 : d ≤ pp) (a3 : pp ≤ 60) (a4 : 60 % pp = 0)
    (hW : ∀ k, ad_W (tb_T P F G K C D j pp) m c d k → ∀ wc wd wp wl wu wn wr,
      post (nI j) (g, upd yP j (nI pp), upd yC j (nI c), upd yD j (nI d), upd yF j (nI c), upd yO j (nI k), upd yS j (-4), wc, wd, wp, wl, wu, wn, wr))
    (h1 : (∀ k, k < m → ¬ tb_T P F G K C D j pp k c d) → ∀ x i b, ad_Z (tb_T P F G K C D j pp) m c d x i b → ∀ wc wd wp wl wu wn wr,
      post (nI j) (g, upd yP j (nI pp), upd yC j (nI c), upd yD j (nI d), upd yF j (nI x), upd yO j (nI i), upd yS j (nI b), wc, wd, wp, wl, wu, wn, wr))
    (h0 : (∀ k, k < m → ¬ tb_T P F G K C D j pp k c d) → (∀ x, 1 ≤ x → x < c → ∀ i b, ¬ ad_Q (tb_T P F G K C D j pp) m c d x i b) →
      ∀ wc wd wp wl wu wn wr, post (-4) (g, yP, yC, yD, yF, yO, yS, wc, wd, wp, wl, wu, wn, wr)) :
    ∀ e k, k + e = m → (∀ a, a < k → ¬ tb_T P F G K C D j pp a c d) → ∀ wc wd wp wl wu wn wr,
      wY_admit_63 post (nI c) (nI d) (nI pp) (nI j) (e + 1) (-4) (nI k) g yP yC yD yF yO yS wc wd wp wl wu wn wr := by
  have hm := TB.1
  intro e
  induction e with
  | zero =>
    intro k hk hn wc wd wp wl wu wn wr
    have e1 : k = m := by omega
    subst e1
    refine pk_le k k (fun _ => nm_r (e' := nI (c - 1)) (pk_sub (a := c) (b := 1) a0) ⟨c - 1 + 1, ?_⟩) (fun h => absurd h (by omega)) Y.1
    exact ay_117 TB Y hj a1 a2 a3 a4 (h1 hn) (h0 hn) (c - 1) (by omega) (fun y y1 y2 => by omega) _ _ _ _ _ _ _
  | succ e ih =>
    intro k hk hn wc wd wp wl wu wn wr
    refine pk_le m k (fun h => absurd h (by omega)) (fun _ => br_t rfl (fy_takes TB Y (by omega) (by omega) a1 a2 a3 a4 (fun t wc wd wp wl wu wn wr => ?_) (fun nt wc wd wp wl wu wn wr => ?_))) Y.1
    · refine br_f (by decide) (fy_place hj (nm_r (nI_1 k) (ai_63 Y.1 hm.2 hj a0 (by omega) (hW k ⟨by omega, t, hn⟩ _ _ _ _ _ _ _) e (k + 1) (by omega))))
    · exact br_t rfl (nm_r (nI_1 k) (ih (k + 1) (by omega) (lt_s hn nt) _ _ _ _ _ _ _))
end
