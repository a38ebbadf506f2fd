/-! the small methods of both programs -/
def sm_per (q : Nat) : Prop := 2 ≤ q ∧ q ≤ 60 ∧ 60 % q = 0
theorem sm_per_c (x : Int32) : (∃ q, sm_per q ∧ x = nI q) ∨ (∀ q, sm_per q → x ≠ nI q) := by
  by_cases h : ∃ q, sm_per q ∧ x = nI q
  · exact Or.inl h
  · exact Or.inr (fun q h1 h2 => h ⟨q, h1, h2⟩)
theorem sm_ix_c (x : Int32) (Q : Nat → Prop) : (∃ q, Q q ∧ x = nI q) ∨ (∀ q, Q q → x ≠ nI q) := by
  by_cases h : ∃ q, Q q ∧ x = nI q
  · exact Or.inl h
  · exact Or.inr (fun q h1 h2 => h ⟨q, h1, h2⟩)
theorem sm_rem {q : Nat} (h : 2 ≤ q) (h2 : q ≤ 60) : (60 - 60 / nI q * nI q) = nI (60 % q) :=
  pk_rem (a := 60) (d := q) (by omega) (by omega) (by omega)
theorem sm_modlt (q : Nat) : 60 % q ≤ 60 := Nat.mod_le _ _
section
variable {fc fn : Int32} {tp tf ts pc pd ac ad ap jl jd lr rs : Nat → Int32} {m : Nat} {P F G K C D : Nat → Nat}
variable {g : Int32} {yP yC yD yF yO yS wc wd wp wl wu wn wr : Nat → Int32}
theorem sm_perX1 {post : Int32 → Prop} {u : SX} {q : Nat} (h : sm_per q) (h1 : post 1) : wpX_isPeriod post u (nI q) := by
  obtain ⟨fc, fn, tp, tf, ts, pc, pd, ac, ad, ap, jl, jd, lr, rs⟩ := u
  obtain ⟨q1, q2, q3⟩ := h
  refine pk_lt q 2 (fun h => absurd h (by omega)) (fun _ => pk_lt 60 q (fun h => absurd h (by omega)) (fun _ => ⟨nI_ne0 (by omega) (by omega), ?_⟩))
  exact br_t (by rw [sm_rem q1 q2, q3]; rfl) h1
theorem sm_perY1 {post : Int32 → Prop} {u : SY} {q : Nat} (h : sm_per q) (h1 : post 0) : wpY_badPeriod post u (nI q) := by
  obtain ⟨g, yP, yC, yD, yF, yO, yS, wc, wd, wp, wl, wu, wn, wr⟩ := u
  obtain ⟨q1, q2, q3⟩ := h
  refine pk_lt q 2 (fun h => absurd h (by omega)) (fun _ => pk_le q 60 (fun _ => ⟨nI_ne0 (by omega) (by omega), ?_⟩) (fun h => absurd h (by omega)))
  exact br_t (by rw [sm_rem q1 q2, q3]; rfl) h1
theorem sm_per_n {x : Int32} (hn : ∀ q, sm_per q → x ≠ nI q) (h2 : ¬ x < 2) (h60 : ¬ 60 < x) : ¬ x = 0 ∧ ¬ (60 - 60 / x * x) = 0 := by
  have h0 : ¬ x < 0 := fun z => h2 (Int32.lt_trans z (by decide))
  obtain ⟨j, hj, rfl⟩ := nI_of h0
  have g2 : ¬ j < 2 := fun z => h2 (nI_lt (b := 2) z (by omega))
  have g60 : ¬ 60 < j := fun z => h60 (nI_lt (a := 60) z hj)
  refine ⟨nI_ne0 (by omega) hj, fun z => ?_⟩
  rw [sm_rem (by omega) (by omega)] at z
  have hm := sm_modlt j
  have z' : 60 % j = 0 := (nI_eq (b := 0) (by omega) (by omega)).mp z
  exact hn j ⟨by omega, by omega, z'⟩ rfl
theorem sm_perX0 {post : Int32 → Prop} {u : SX} {x : Int32} (hn : ∀ q, sm_per q → x ≠ nI q) (h0 : post 0) : wpX_isPeriod post u x := by
  obtain ⟨fc, fn, tp, tf, ts, pc, pd, ac, ad, ap, jl, jd, lr, rs⟩ := u
  refine br_c (fun _ => h0) (fun h2 => br_c (fun _ => h0) (fun h60 => ?_))
  obtain ⟨a, b⟩ := sm_per_n hn h2 h60
  exact ⟨a, br_f b h0⟩
theorem sm_perY0 {post : Int32 → Prop} {u : SY} {x : Int32} (hn : ∀ q, sm_per q → x ≠ nI q) (h0 : post 1) : wpY_badPeriod post u x := by
  obtain ⟨g, yP, yC, yD, yF, yO, yS, wc, wd, wp, wl, wu, wn, wr⟩ := u
  refine br_c (fun _ => h0) (fun h2 => br_c (fun h60 => ?_) (fun _ => h0))
  obtain ⟨a, b⟩ := sm_per_n hn h2 (Int32.not_lt.mpr h60)
  exact ⟨a, br_f b h0⟩
/-! is there such a task -/
theorem sm_tkX1 {post : Int32 → Prop} (X : tx_I m P F G K C D fc fn tp tf ts pc pd) {i : Nat} (hi : i < 12) (hp : 0 < P i) (hb : P i ≤ 60) (h1 : post 1) :
    wpX_isTask post (fc, fn, tp, tf, ts, pc, pd, ac, ad, ap, jl, jd, lr, rs) (nI i) := by
  have hc : (nI i).toNatClampNeg = i := nI_clamp (by omega)
  have e : tp (nI i).toNatClampNeg = nI (P i) := by rw [hc]; exact (X.2.2.1 i (by omega)).1
  exact br_f (nI_pos (by omega)) (pk_le 12 i (fun h => absurd h (by omega)) (fun _ => ⟨vp_in_nI (by omega) (by omega), pk_le (P i) 0 (fun h => absurd h (by omega)) (fun _ => h1) e⟩))
theorem sm_tkY1 {post : Int32 → Prop} (Y : ty_I m P F G K C D g yP yC yD yF yO yS) {i : Nat} (hi : i < 12) (hp : 0 < P i) (hb : P i ≤ 60) (h1 : post 0) :
    wpY_none post (g, yP, yC, yD, yF, yO, yS, wc, wd, wp, wl, wu, wn, wr) (nI i) := by
  have hc : (nI i).toNatClampNeg = i := nI_clamp (by omega)
  have e : yP (nI i).toNatClampNeg = nI (P i) := by rw [hc]; exact (Y.2 i hi).1
  exact br_f (nI_pos (by omega)) (pk_lt 11 i (fun h => absurd h (by omega)) (fun _ => ⟨vp_in_nI (by omega) (by omega), pk_eq (P i) 0 (fun h => absurd h (by omega)) (fun _ => h1) e⟩))
theorem sm_tkX0 {post : Int32 → Prop} (X : tx_I m P F G K C D fc fn tp tf ts pc pd) {x : Int32} (hn : ∀ q, (q < 12 ∧ 0 < P q) → x ≠ nI q) (h0 : post 0) :
    wpX_isTask post (fc, fn, tp, tf, ts, pc, pd, ac, ad, ap, jl, jd, lr, rs) x := by
  refine br_c (fun _ => h0) (fun h => br_c (fun _ => h0) (fun h12 => ?_))
  obtain ⟨j, hj, rfl⟩ := nI_of h
  have j12 : j < 12 := by
    rcases Nat.lt_or_ge j 12 with z | z
    · exact z
    · exact absurd (nI_le (a := 12) z hj) h12
  have hc : (nI j).toNatClampNeg = j := nI_clamp (by omega)
  have hp : P j = 0 := by
    rcases Nat.eq_zero_or_pos (P j) with z | z
    · exact z
    · exact absurd rfl (hn j ⟨j12, z⟩)
  have e : tp (nI j).toNatClampNeg = nI (P j) := by rw [hc]; exact (X.2.2.1 j (by omega)).1
  exact ⟨vp_in_nI (by omega) (by omega), pk_le (P j) 0 (fun _ => h0) (fun h => absurd h (by omega)) e⟩
theorem sm_tkY0 {post : Int32 → Prop} (Y : ty_I m P F G K C D g yP yC yD yF yO yS) {x : Int32} (hn : ∀ q, (q < 12 ∧ 0 < P q) → x ≠ nI q) (h0 : post 1) :
    wpY_none post (g, yP, yC, yD, yF, yO, yS, wc, wd, wp, wl, wu, wn, wr) x := by
  refine br_c (fun _ => h0) (fun h => br_c (fun _ => h0) (fun h12 => ?_))
  obtain ⟨j, hj, rfl⟩ := nI_of h
  have j12 : j < 12 := by
    rcases Nat.lt_or_ge 11 j with z | z
    · exact absurd (nI_lt (a := 11) z hj) h12
    · omega
  have hc : (nI j).toNatClampNeg = j := nI_clamp (by omega)
  have hp : P j = 0 := by
    rcases Nat.eq_zero_or_pos (P j) with z | z
    · exact z
    · exact absurd rfl (hn j ⟨j12, z⟩)
  have e : yP (nI j).toNatClampNeg = nI (P j) := by rw [hc]; exact (Y.2 j j12).1
  exact ⟨vp_in_nI (by omega) (by omega), pk_eq (P j) 0 (fun _ => h0) (fun h => absurd hp h) e⟩
/-! is there such a core -/
theorem sm_crX1 {post : Int32 → Prop} (X : tx_I m P F G K C D fc fn tp tf ts pc pd) (hm : m ≤ 3) {k : Nat} (hk : k < m) (h1 : post 1) :
    wpX_isCore post (fc, fn, tp, tf, ts, pc, pd, ac, ad, ap, jl, jd, lr, rs) (nI k) :=
  br_f (nI_pos (by omega)) (pk_le m k (fun h => absurd h (by omega)) (fun _ => h1) X.1)
theorem sm_crY1 {post : Int32 → Prop} (Y : ty_I m P F G K C D g yP yC yD yF yO yS) (hm : m ≤ 3) {k : Nat} (hk : k < m) (h1 : post 0) :
    wpY_badCore post (g, yP, yC, yD, yF, yO, yS, wc, wd, wp, wl, wu, wn, wr) (nI k) :=
  br_f (nI_pos (by omega)) (pk_lt k m (fun _ => h1) (fun h => absurd h (by omega)) rfl Y.1)
theorem sm_crX0 {post : Int32 → Prop} (X : tx_I m P F G K C D fc fn tp tf ts pc pd) (hm : m ≤ 3) {x : Int32} (hn : ∀ q, q < m → x ≠ nI q) (h0 : post 0) :
    wpX_isCore post (fc, fn, tp, tf, ts, pc, pd, ac, ad, ap, jl, jd, lr, rs) x := by
  refine br_c (fun _ => h0) (fun h => br_c (fun _ => h0) (fun h12 => ?_))
  obtain ⟨j, hj, rfl⟩ := nI_of h
  rw [X.1, nI_leI (by omega) hj] at h12
  exact absurd rfl (hn j (by omega))
theorem sm_crY0 {post : Int32 → Prop} (Y : ty_I m P F G K C D g yP yC yD yF yO yS) (hm : m ≤ 3) {x : Int32} (hn : ∀ q, q < m → x ≠ nI q) (h0 : post 1) :
    wpY_badCore post (g, yP, yC, yD, yF, yO, yS, wc, wd, wp, wl, wu, wn, wr) x := by
  refine br_c (fun _ => h0) (fun h => br_c (fun h12 => ?_) (fun _ => h0))
  obtain ⟨j, hj, rfl⟩ := nI_of h
  rw [Y.1, nI_ltI hj (by omega)] at h12
  exact absurd rfl (hn j h12)
/-! the free id, and how many -/
theorem sm_frX {post : Int32 → Prop} (X : tx_I m P F G K C D fc fn tp tf ts pc pd) (hb : ∀ i, P i ≤ 60) {j : Nat} (hf : tb_fr P j) (h : post (nI j)) :
    ∀ e k, k + e = 12 → k ≤ j → wX_smallestFreeId_2 post fc fn tp tf ts pc pd ac ad ap jl jd lr rs (e + 1) (nI k) := by
  obtain ⟨f1, f2, f3⟩ := hf
  intro e
  induction e with
  | zero =>
    intro k hk hj
    have e1 : k = 12 := by omega
    have e2 : j = 12 := by omega
    subst e1 e2
    exact pk_le 12 12 (fun _ => h) (fun h => absurd h (by omega))
  | succ e ih =>
    intro k hk hj
    have hc : (nI k).toNatClampNeg = k := nI_clamp (by omega)
    have hbk := hb k
    have eP : tp (nI k).toNatClampNeg = nI (P k) := by rw [hc]; exact (X.2.2.1 k (by omega)).1
    refine pk_le 12 k (fun h => absurd h (by omega)) (fun _ => ⟨vp_in_nI (by omega) (by omega), pk_eq (P k) 0 (fun z => ?_) (fun z => ?_) eP⟩)
    · have e1 : k = j := by
        rcases Nat.lt_or_ge k j with y | y
        · have := f2 k y; omega
        · omega
      subst e1
      exact h
    · refine nm_r (nI_1 k) (ih (k + 1) (by omega) ?_)
      rcases Nat.lt_or_ge k j with y | y
      · exact y
      · have e1 : k = j := by omega
        subst e1
        exact absurd (f3 (by omega)) z
theorem sm_frXw {post : Int32 → Prop} (X : tx_I m P F G K C D fc fn tp tf ts pc pd) (hb : ∀ i, P i ≤ 60) {j : Nat} (hf : tb_fr P j) (h : post (nI j)) :
    wpX_smallestFreeId post (fc, fn, tp, tf, ts, pc, pd, ac, ad, ap, jl, jd, lr, rs) := ⟨13, sm_frX X hb hf h 12 0 rfl (Nat.zero_le _)⟩
theorem sm_frY {post : Int32 → Prop} (Y : ty_I m P F G K C D g yP yC yD yF yO yS) (hb : ∀ i, P i ≤ 60) {j : Nat} (hf : tb_fr P j) (h : post (nI j)) :
    ∀ e k, k + e = 12 → k ≤ j → wY_freeId_2 post g yP yC yD yF yO yS wc wd wp wl wu wn wr (e + 1) (nI k) := by
  obtain ⟨f1, f2, f3⟩ := hf
  intro e
  induction e with
  | zero =>
    intro k hk hj
    have e1 : k = 12 := by omega
    have e2 : j = 12 := by omega
    subst e1 e2
    exact pk_le 12 12 (fun _ => h) (fun h => absurd h (by omega))
  | succ e ih =>
    intro k hk hj
    have hc : (nI k).toNatClampNeg = k := nI_clamp (by omega)
    have hbk := hb k
    have eP : yP (nI k).toNatClampNeg = nI (P k) := by rw [hc]; exact (Y.2 k (by omega)).1
    refine pk_le 12 k (fun h => absurd h (by omega)) (fun _ => ⟨vp_in_nI (by omega) (by omega), pk_eq (P k) 0 (fun z => ?_) (fun z => ?_) eP⟩)
    · have e1 : k = j := by
        rcases Nat.lt_or_ge k j with y | y
        · have := f2 k y; omega
        · omega
      subst e1
      exact h
    · refine nm_r (nI_1 k) (ih (k + 1) (by omega) ?_)
      rcases Nat.lt_or_ge k j with y | y
      · exact y
      · have e1 : k = j := by omega
        subst e1
        exact absurd (f3 (by omega)) z
theorem sm_frYw {post : Int32 → Prop} (Y : ty_I m P F G K C D g yP yC yD yF yO yS) (hb : ∀ i, P i ≤ 60) {j : Nat} (hf : tb_fr P j) (h : post (nI j)) :
    wpY_freeId post (g, yP, yC, yD, yF, yO, yS, wc, wd, wp, wl, wu, wn, wr) := ⟨13, sm_frY Y hb hf h 12 0 rfl (Nat.zero_le _)⟩
theorem sm_cnt {post : Int32 → Prop} (hY : ∀ i, i < 12 → yP i = nI (P i)) (hb : ∀ i, P i ≤ 60) (h : post (nI (tb_n P 12))) :
    ∀ e k, k + e = 12 → wY_count_4 post g yP yC yD yF yO yS wc wd wp wl wu wn wr (e + 1) (nI (tb_n P k)) (nI k) := by
  intro e
  induction e with
  | zero =>
    intro k hk
    have e1 : k = 12 := by omega
    subst e1
    exact pk_le 12 12 (fun _ => h) (fun h => absurd h (by omega))
  | succ e ih =>
    intro k hk
    have hc : (nI k).toNatClampNeg = k := nI_clamp (by omega)
    have hbk := hb k
    have eP : yP (nI k).toNatClampNeg = nI (P k) := by rw [hc]; exact hY k (by omega)
    have nx := ih (k + 1) (by omega)
    refine pk_le 12 k (fun h => absurd h (by omega)) (fun _ => ⟨vp_in_nI (by omega) (by omega), pk_eq (P k) 0 (fun z => ?_) (fun z => ?_) eP⟩)
    · have e1 : tb_n P (k + 1) = tb_n P k := if_pos z
      rw [e1] at nx
      exact nm_r (nI_1 k) nx
    · have e1 : tb_n P (k + 1) = tb_n P k + 1 := if_neg z
      rw [e1] at nx
      exact nm_r (nI_1 _) (nm_r (nI_1 k) nx)
theorem sm_cntw {post : Int32 → Prop} (hY : ∀ i, i < 12 → yP i = nI (P i)) (hb : ∀ i, P i ≤ 60) (h : post (nI (tb_n P 12))) :
    wpY_count post (g, yP, yC, yD, yF, yO, yS, wc, wd, wp, wl, wu, wn, wr) := ⟨13, sm_cnt hY hb h 12 0 rfl⟩
theorem sm_Pb (TB : tb_ok m P F G K C D) : ∀ i, P i ≤ 60 := by
  intro i
  rcases Nat.eq_zero_or_pos (P i) with z | z
  · omega
  · exact (TB.2.2.1 i z).1
theorem sm_cb (TB : tb_ok m P F G K C D) {k : Nat} (i : Nat) : tb_c P F G K C k i ≤ 60 := by
  unfold tb_c
  rcases Nat.eq_zero_or_pos (P i) with z | z
  · rw [if_pos z]; omega
  · obtain ⟨r1, r2, r3, r4, r5, r6, r7⟩ := TB.2.2.1 i z
    rw [if_neg (by omega)]
    split
    · omega
    · split <;> omega
/-! what stands in a row -/
theorem fx_setTask {post : SX → Prop} {i : Nat} (hi : i < 13) {q a b : Int32}
    (H : post (fc, fn, upd tp i q, upd tf i a, upd ts i b, pc, pd, ac, ad, ap, jl, jd, lr, rs)) :
    wpX_setTask post (fc, fn, tp, tf, ts, pc, pd, ac, ad, ap, jl, jd, lr, rs) (nI i) q a b := by
  have hc : (nI i).toNatClampNeg = i := nI_clamp (by omega)
  have hin : vp_in (nI i) 13 := vp_in_nI (by omega) (by omega)
  refine ⟨hin, fun a1 e1 => ⟨hin, fun a2 e2 => ⟨hin, fun a3 e3 => ?_⟩⟩⟩
  rw [hc] at e1 e2 e3
  subst e1 e2 e3
  exact H
theorem fx_setPart {post : SX → Prop} {k i : Nat} (hk : k < 3) (hi : i < 13) {x y : Int32}
    (H : post (fc, fn, tp, tf, ts, upd pc (k * 13 + i) x, upd pd (k * 13 + i) y, ac, ad, ap, jl, jd, lr, rs)) :
    wpX_setPart post (fc, fn, tp, tf, ts, pc, pd, ac, ad, ap, jl, jd, lr, rs) (nI k) (nI i) x y := by
  have hx : nI k * 13 + nI i = nI (k * 13 + i) := by rw [show (13 : Int32) = nI 13 from rfl, pk_mul, nI_add]
  have hix : vp_in (nI k * 13 + nI i) 39 := pk_in (k * 13 + i) 39 (by omega) hx
  have hcx : (nI k * 13 + nI i).toNatClampNeg = k * 13 + i := pk_cl (k * 13 + i) hx
  refine ⟨hix, fun a1 e1 => ⟨hix, fun a2 e2 => ?_⟩⟩
  rw [hcx] at e1 e2
  subst e1 e2
  exact H
end
