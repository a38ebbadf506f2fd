/-! the table on both programs' fields; a core taken under test; a part tried out -/
def tb_g (x : Nat) : Int32 := if x = 3 then -4 else nI x
theorem tb_g3 : tb_g 3 = -4 := if_pos rfl
theorem tb_gn {x : Nat} (h : x ≠ 3) : tb_g x = nI x := if_neg h
theorem tb_ne4 {b : Nat} (h : b < 2 ^ 31) : ¬ nI b = -4 := by
  intro e
  have h1 := nI_toInt h
  rw [e] at h1
  have h2 : (-4 : Int32).toInt = -4 := by decide
  omega
def tx_I (m : Nat) (P F G K C D : Nat → Nat) (fc fn : Int32) (tp tf ts pc pd : Nat → Int32) : Prop :=
  fc = nI m ∧ fn = nI (tb_n P 12) ∧ (∀ i, i < 13 → tp i = nI (P i) ∧ (0 < P i → tf i = nI (F i) ∧ ts i = tb_g (G i))) ∧
  (∀ k i, k < 3 → i < 13 → pc (k * 13 + i) = nI (tb_c P F G K C k i) ∧ (0 < tb_c P F G K C k i → pd (k * 13 + i) = nI (tb_d F G K D k i)))
def ty_I (m : Nat) (P F G K C D : Nat → Nat) (g : Int32) (yP yC yD yF yO yS : Nat → Int32) : Prop :=
  g = nI m ∧ ∀ i, i < 12 → yP i = nI (P i) ∧
    (0 < P i → yO i = nI (F i) ∧ yS i = tb_g (G i) ∧ yF i = nI (K i) ∧ yC i = nI (C i) ∧ yD i = nI (D i))
section
variable {fc fn : Int32} {tp tf ts pc pd ac ad ap jl jd lr rs : Nat → Int32} {m : Nat} {P F G K C D : Nat → Nat}
variable {g : Int32} {yP yC yD yF yO yS wc wd wp wl wu wn wr : Nat → Int32}
theorem tx_T (X : tx_I m P F G K C D fc fn tp tf ts pc pd) {k : Nat} (hk : k < 3)
    (h : ∀ i, i < 13 → ac i = pc (k * 13 + i) ∧ ad i = pd (k * 13 + i) ∧ ap i = tp i) :
    ru_T ac ad ap (tb_c P F G K C k) (tb_d F G K D k) P := by
  intro i hi
  obtain ⟨x1, x2, x3, x4⟩ := X
  obtain ⟨h1, h2, h3⟩ := h i hi
  obtain ⟨g1, g2⟩ := x4 k i hk hi
  exact ⟨h1.trans g1, fun z => ⟨h2.trans (g2 z), h3.trans (x3 i hi).1⟩⟩
theorem fx_take {post : SX → Prop} (X : tx_I m P F G K C D fc fn tp tf ts pc pd) {k : Nat} (hk : k < 3)
    (H : ∀ ac' ad' ap', ru_T ac' ad' ap' (tb_c P F G K C k) (tb_d F G K D k) P →
      post (fc, fn, tp, tf, ts, pc, pd, ac', ad', ap', jl, jd, lr, rs)) :
    wpX_takeUnderTest post (fc, fn, tp, tf, ts, pc, pd, ac, ad, ap, jl, jd, lr, rs) (nI k) :=
  rx_take hk (fun a b e h => H a b e (tx_T X hk h))
theorem fx_n1 : narrow .boolean (.int 1) = .int 1 := lw_bz_n 1
theorem fx_n0 : narrow .boolean (.int 0) = .int 0 := lw_bz_n 0
theorem fx_fits {post : Int32 → SX → Prop} (TB : tb_ok m P F G K C D) (X : tx_I m P F G K C D fc fn tp tf ts pc pd) {k j x dd pp : Nat}
    (hk : k < m) (hj : j < 13) (a1 : x ≤ dd) (a2 : dd ≤ pp) (a3 : pp ≤ 60) (a4 : 60 % pp = 0)
    (h1 : tb_T P F G K C D j pp k x dd → ∀ ac ad ap jl jd lr rs, post 1 (fc, fn, tp, tf, ts, pc, pd, ac, ad, ap, jl, jd, lr, rs))
    (h0 : ¬ tb_T P F G K C D j pp k x dd → ∀ ac ad ap jl jd lr rs, post 0 (fc, fn, tp, tf, ts, pc, pd, ac, ad, ap, jl, jd, lr, rs)) :
    wpX_fits post (fc, fn, tp, tf, ts, pc, pd, ac, ad, ap, jl, jd, lr, rs) (nI k) (nI j) (nI x) (nI dd) (nI pp) := by
  have hm := TB.1
  have hc : (nI j).toNatClampNeg = j := nI_clamp (by omega)
  have hin : vp_in (nI j) 13 := vp_in_nI hj (by omega)
  have V := tb_Vup (tb_V TB hk) (j := j) a1 a2 a3 a4
  unfold wpX_fits
  refine fx_take X (by omega) (fun ac1 ad1 ap1 T => ?_)
  refine ⟨hin, fun ac2 e1 => ⟨hin, fun ad2 e2 => ⟨hin, fun ap2 e3 => ?_⟩⟩⟩
  rw [hc] at e1 e2 e3
  subst e1 e2 e3
  exact rx_run V (ru_T_up T j x dd pp) (fun ok jl' jd' lr' rs' _ _ => ⟨fx_n1, h1 ok _ _ _ _ _ _ _⟩) (fun ok jl' jd' lr' rs' => ⟨fx_n0, h0 ok _ _ _ _ _ _ _⟩)
/-! the second program's parts -/
def ry_G (P F G K C D : Nat → Nat) (k i : Nat) (wc wd wp : Nat → Int32) : Prop :=
  (∀ a, a < i → wc a = nI (tb_c P F G K C k a) ∧ (0 < tb_c P F G K C k a → wd a = nI (tb_d F G K D k a) ∧ wp a = nI (P a))) ∧ wc 12 = 0
theorem ry_G_put {wc' wd' wp' : Nat → Int32} {k i : Nat} (h : ry_G P F G K C D k i wc wd wp) (hi : i < 12)
    (hn : ∀ a, a ≠ i → wc' a = wc a ∧ wd' a = wd a ∧ wp' a = wp a)
    (hs : wc' i = nI (tb_c P F G K C k i) ∧ (0 < tb_c P F G K C k i → wd' i = nI (tb_d F G K D k i) ∧ wp' i = nI (P i))) :
    ry_G P F G K C D k (i + 1) wc' wd' wp' := by
  refine ⟨lt_s (fun a ha => ?_) hs, ?_⟩
  · obtain ⟨n1, n2, n3⟩ := hn a (by omega)
    rw [n1, n2, n3]; exact h.1 a ha
  · rw [(hn 12 (by omega)).1]; exact h.2
theorem ry_G_T {k : Nat} (TB : tb_ok m P F G K C D) (h : ry_G P F G K C D k 12 wc wd wp) : ru_T wc wd wp (tb_c P F G K C k) (tb_d F G K D k) P := by
  intro i hi
  by_cases z : i < 12
  · exact h.1 i z
  · have e : i = 12 := by omega
    subst e
    have e0 : tb_c P F G K C k 12 = 0 := if_pos (TB.2.1 12 (by omega))
    rw [e0]
    exact ⟨h.2, fun z => absurd z (Nat.lt_irrefl 0)⟩
theorem ry_parts_l {post : SY → Prop} (TB : tb_ok m P F G K C D) (Y : ty_I m P F G K C D g yP yC yD yF yO yS) {k : Nat} (hk : k < 3)
    (H : ∀ wc' wd' wp', ru_T wc' wd' wp' (tb_c P F G K C k) (tb_d F G K D k) P → post (g, yP, yC, yD, yF, yO, yS, wc', wd', wp', wl, wu, wn, wr)) :
    ∀ e i, i + e = 12 → ∀ wc wd wp, ry_G P F G K C D k i wc wd wp →
      wY_parts_10 post (nI k) g (e + 1) (nI i) yP yC yD yF yO yS wc wd wp wl wu wn wr := by
  intro e
  induction e with
  | zero =>
    intro i hi wc wd wp h
    have hi' : i = 12 := by omega
    subst hi'
    exact pk_le 12 12 (fun _ => H wc wd wp (ry_G_T TB h)) (fun h => absurd h (by omega))
  | succ e ih =>
    intro i hi wc wd wp h
    have hi12 : i < 12 := by omega
    have hc : (nI i).toNatClampNeg = i := nI_clamp (by omega)
    have hin : vp_in (nI i) 13 := vp_in_nI (by omega) (by omega)
    have hi2 : vp_in (nI i) 12 := vp_in_nI (by omega) (by omega)
    obtain ⟨y1, y2⟩ := Y.2 i hi12
    have hm := TB.1
    have eP : yP (nI i).toNatClampNeg = nI (P i) := by rw [hc]; exact y1
    refine pk_le 12 i (fun h => absurd h (by omega)) (fun _ => ⟨hin, fun wc1 e1 => ⟨hi2, hin, fun wp1 e2 => ⟨hi2, ?_⟩⟩⟩)
    rw [hc] at e1
    rw [eP, hc] at e2
    subst e1 e2
    rcases Nat.eq_zero_or_pos (P i) with z | z
    · have e0 : yP (nI i).toNatClampNeg = 0 := by rw [eP, z]; rfl
      have nx : ry_G P F G K C D k (i + 1) (upd wc i 0) wd (upd wp i (nI (P i))) := by
        refine ry_G_put h hi12 (fun a ha => ⟨pk_un ha, rfl, pk_un ha⟩) ?_
        have t0 : tb_c P F G K C k i = 0 := if_pos z
        rw [t0, pk_us]
        exact ⟨rfl, fun z => absurd z (Nat.lt_irrefl 0)⟩
      exact br_c (fun _ => ⟨hi2, br_t e0 ⟨hi2, br_t e0 (nm_r (nI_1 i) (ih (i + 1) (by omega) _ _ _ nx))⟩⟩)
        (fun _ => ⟨hi2, br_t e0 ⟨hi2, br_t e0 (nm_r (nI_1 i) (ih (i + 1) (by omega) _ _ _ nx))⟩⟩)
    · obtain ⟨q1, q2, q3, q4, q5⟩ := y2 z
      obtain ⟨r1, r2, r3, r4, r5, r6, r7⟩ := TB.2.2.1 i z
      have e0 : ¬ yP (nI i).toNatClampNeg = 0 := by rw [eP]; exact nI_ne0 z (by omega)
      have eO : yO (nI i).toNatClampNeg = nI (F i) := by rw [hc]; exact q1
      have eS : yS (nI i).toNatClampNeg = tb_g (G i) := by rw [hc]; exact q2
      have eF : yF (nI i).toNatClampNeg = nI (K i) := by rw [hc]; exact q3
      have eC : yC (nI i).toNatClampNeg = nI (C i) := by rw [hc]; exact q4
      have eD : yD (nI i).toNatClampNeg = nI (D i) := by rw [hc]; exact q5
      by_cases zF : F i = k
      · have tc : tb_c P F G K C k i = K i := by unfold tb_c; rw [if_neg (by omega), if_pos zF]
        have ns : ¬ yS (nI i).toNatClampNeg = nI k := by
          rw [eS]
          by_cases z3 : G i = 3
          · rw [z3, tb_g3]; exact fun e => tb_ne4 (b := k) (by omega) e.symm
          · rw [tb_gn z3]; exact fun e => absurd ((nI_eq (by omega) (by omega)).mp e) (by omega)
        by_cases z3 : G i = 3
        · have td : tb_d F G K D k i = D i := by unfold tb_d; rw [if_pos zF, if_pos z3]
          refine br_t (by rw [eS, z3, tb_g3]) ⟨hi2, br_f e0 ⟨hi2, br_t (by rw [eO, zF]) ⟨hi2, hin, fun wc2 e3 => br_t rfl ⟨hi2, hin, fun wd2 e4 => ?_⟩⟩⟩⟩
          rw [eF, hc] at e3
          rw [eD, hc] at e4
          subst e3 e4
          refine ⟨hi2, br_f e0 ⟨hi2, br_f ns (nm_r (nI_1 i) (ih (i + 1) (by omega) _ _ _ ?_))⟩⟩
          refine ry_G_put h hi12 (fun a ha => ⟨by rw [pk_un ha, pk_un ha], pk_un ha, pk_un ha⟩) ?_
          rw [tc, td, pk_us, pk_us, pk_us]
          exact ⟨rfl, fun _ => ⟨rfl, rfl⟩⟩
        · have td : tb_d F G K D k i = K i := by unfold tb_d; rw [if_pos zF, if_neg z3]
          refine br_f (by rw [eS, tb_gn z3]; exact tb_ne4 (by omega)) ⟨hi2, br_f e0 ⟨hi2, br_t (by rw [eO, zF]) ⟨hi2, hin, fun wc2 e3 => br_f (by decide) ⟨hi2, hin, fun wd2 e4 => ?_⟩⟩⟩⟩
          rw [eF, hc] at e3
          rw [eF, hc] at e4
          subst e3 e4
          refine ⟨hi2, br_f e0 ⟨hi2, br_f ns (nm_r (nI_1 i) (ih (i + 1) (by omega) _ _ _ ?_))⟩⟩
          refine ry_G_put h hi12 (fun a ha => ⟨by rw [pk_un ha, pk_un ha], pk_un ha, pk_un ha⟩) ?_
          rw [tc, td, pk_us, pk_us, pk_us]
          exact ⟨rfl, fun _ => ⟨rfl, rfl⟩⟩
      · have nF : ¬ yO (nI i).toNatClampNeg = nI k := by
          rw [eO]; exact fun e => zF ((nI_eq (by omega) (by omega)).mp e)
        by_cases zG : G i = k
        · have tc : tb_c P F G K C k i = C i - K i := by unfold tb_c; rw [if_neg (by omega), if_neg zF, if_pos zG]
          have td : tb_d F G K D k i = D i - K i := by unfold tb_d; rw [if_neg zF]
          have ss : yS (nI i).toNatClampNeg = nI k := by rw [eS, tb_gn (by omega), zG]
          refine br_f (by rw [eS, tb_gn (by omega)]; exact tb_ne4 (by omega)) ⟨hi2, br_f e0 ⟨hi2, br_f nF ⟨hi2, br_f e0 ⟨hi2, br_t ss ⟨hi2, hi2, hin, fun wc2 e3 => ⟨hi2, hi2, hin, fun wd2 e4 => ?_⟩⟩⟩⟩⟩⟩
          rw [eF, eC, hc, pk_sub (by omega)] at e3
          rw [eF, eD, hc, pk_sub (by omega)] at e4
          subst e3 e4
          refine nm_r (nI_1 i) (ih (i + 1) (by omega) _ _ _ ?_)
          refine ry_G_put h hi12 (fun a ha => ⟨by rw [pk_un ha, pk_un ha], pk_un ha, pk_un ha⟩) ?_
          rw [tc, td, pk_us, pk_us, pk_us]
          exact ⟨rfl, fun _ => ⟨rfl, rfl⟩⟩
        · have tc : tb_c P F G K C k i = 0 := by unfold tb_c; rw [if_neg (by omega), if_neg zF, if_neg zG]
          have ns : ¬ yS (nI i).toNatClampNeg = nI k := by
            rw [eS]
            by_cases z3 : G i = 3
            · rw [z3, tb_g3]; exact fun e => tb_ne4 (b := k) (by omega) e.symm
            · rw [tb_gn z3]; exact fun e => zG ((nI_eq (by omega) (by omega)).mp e)
          have nx : ry_G P F G K C D k (i + 1) (upd wc i 0) wd (upd wp i (nI (P i))) := by
            refine ry_G_put h hi12 (fun a ha => ⟨pk_un ha, rfl, pk_un ha⟩) ?_
            rw [tc, pk_us]
            exact ⟨rfl, fun z => absurd z (Nat.lt_irrefl 0)⟩
          exact br_c (fun _ => ⟨hi2, br_f e0 ⟨hi2, br_f nF ⟨hi2, br_f e0 ⟨hi2, br_f ns (nm_r (nI_1 i) (ih (i + 1) (by omega) _ _ _ nx))⟩⟩⟩⟩)
            (fun _ => ⟨hi2, br_f e0 ⟨hi2, br_f nF ⟨hi2, br_f e0 ⟨hi2, br_f ns (nm_r (nI_1 i) (ih (i + 1) (by omega) _ _ _ nx))⟩⟩⟩⟩)
theorem fy_parts {post : SY → Prop} (TB : tb_ok m P F G K C D) (Y : ty_I m P F G K C D g yP yC yD yF yO yS) {k : Nat} (hk : k < 3)
    (H : ∀ wc' wd' wp', ru_T wc' wd' wp' (tb_c P F G K C k) (tb_d F G K D k) P → post (g, yP, yC, yD, yF, yO, yS, wc', wd', wp', wl, wu, wn, wr)) :
    wpY_parts post (g, yP, yC, yD, yF, yO, yS, wc, wd, wp, wl, wu, wn, wr) (nI k) :=
  nm_e ⟨13, ry_parts_l TB Y hk H 12 0 rfl _ _ _ ⟨fun a ha => absurd ha (Nat.not_lt_zero a), pk_us⟩⟩
theorem fy_takes {post : Int32 → SY → Prop} (TB : tb_ok m P F G K C D) (Y : ty_I m P F G K C D g yP yC yD yF yO yS) {k j x dd pp : Nat}
    (hk : k < m) (hj : j < 13) (a1 : x ≤ dd) (a2 : dd ≤ pp) (a3 : pp ≤ 60) (a4 : 60 % pp = 0)
    (h1 : tb_T P F G K C D j pp k x dd → ∀ wc wd wp wl wu wn wr, post 1 (g, yP, yC, yD, yF, yO, yS, wc, wd, wp, wl, wu, wn, wr))
    (h0 : ¬ tb_T P F G K C D j pp k x dd → ∀ wc wd wp wl wu wn wr, post 0 (g, yP, yC, yD, yF, yO, yS, wc, wd, wp, wl, wu, wn, wr)) :
    wpY_takes post (g, yP, yC, yD, yF, yO, yS, wc, wd, wp, wl, wu, wn, wr) (nI k) (nI j) (nI x) (nI dd) (nI pp) := by
  have hm := TB.1
  have hc : (nI j).toNatClampNeg = j := nI_clamp (by omega)
  have hin : vp_in (nI j) 13 := vp_in_nI hj (by omega)
  have V := tb_Vup (tb_V TB hk) (j := j) a1 a2 a3 a4
  unfold wpY_takes
  refine fy_parts TB Y (by omega) (fun ac1 ad1 ap1 T => ?_)
  refine ⟨hin, fun ac2 e1 => ⟨hin, fun ad2 e2 => ⟨hin, fun ap2 e3 => ?_⟩⟩⟩
  rw [hc] at e1 e2 e3
  subst e1 e2 e3
  exact ry_run V (ru_T_up T j x dd pp) (fun ok jl' jd' lr' rs' _ _ => ⟨fx_n1, h1 ok _ _ _ _ _ _ _⟩) (fun ok jl' jd' lr' rs' => ⟨fx_n0, h0 ok _ _ _ _ _ _ _⟩)
end
