/-! remove, load, running, response -/
section
variable {fc fn : Int32} {tp tf ts pc pd ac ad ap jl jd lr rs : Nat → Int32} {m : Nat} {P F G K C D : Nat → Nat}
variable {g : Int32} {yP yC yD yF yO yS wc wd wp wl wu wn wr : Nat → Int32}
theorem rm_l {post : Int32 → SX → Prop} {i : Nat} (hi : i < 13)
    (H : ∀ pc' pd', (∀ k a, k < 3 → a < 13 → pc' (k * 13 + a) = (if a = i then 0 else pc (k * 13 + a)) ∧ (a ≠ i → pd' (k * 13 + a) = pd (k * 13 + a))) →
      post (fn - 1) (fc, fn - 1, upd tp i 0, tf, ts, pc', pd', ac, ad, ap, jl, jd, lr, rs)) :
    ∀ e kk, kk + e = 3 → ∀ pc' pd', (∀ k a, k < 3 → a < 13 → pc' (k * 13 + a) = (if a = i ∧ k < kk then 0 else pc (k * 13 + a)) ∧ (a ≠ i → pd' (k * 13 + a) = pd (k * 13 + a))) →
      wX_remove_13 post (nI i) (e + 1) (nI kk) fc fn tp tf ts pc' pd' ac ad ap jl jd lr rs := by
  intro e
  have hc : (nI i).toNatClampNeg = i := nI_clamp (by omega)
  induction e with
  | zero =>
    intro kk hk pc' pd' h
    have e1 : kk = 3 := by omega
    subst e1
    refine pk_le 3 3 (fun _ => ⟨vp_in_nI hi (by omega), fun tp' et => nm_e ?_⟩) (fun h => absurd h (by omega))
    rw [hc] at et
    subst et
    refine H pc' pd' (fun k a h1 h2 => ?_)
    obtain ⟨g1, g2⟩ := h k a h1 h2
    refine ⟨?_, g2⟩
    rw [g1]
    by_cases z : a = i
    · rw [if_pos z, if_pos ⟨z, h1⟩]
    · rw [if_neg z, if_neg (fun w => z w.1)]
  | succ e ih =>
    intro kk hk pc' pd' h
    refine pk_le 3 kk (fun h => absurd h (by omega)) (fun _ => fx_setPart (by omega) hi (nm_r (nI_1 kk) (ih (kk + 1) (by omega) _ _ (fun k a h1 h2 => ?_))))
    obtain ⟨g1, g2⟩ := h k a h1 h2
    constructor
    · by_cases z : a = i ∧ k = kk
      · obtain ⟨z1, z2⟩ := z
        subst z1 z2
        rw [pk_us, if_pos ⟨rfl, by omega⟩]
      · rw [pk_un (by omega), g1]
        by_cases y : a = i ∧ k < kk
        · rw [if_pos y, if_pos ⟨y.1, by omega⟩]
        · rw [if_neg y, if_neg (fun w => by omega)]
    · intro z
      rw [pk_un (by omega)]
      exact g2 z
theorem ld_X {post : Int32 → Prop} (TB : tb_ok m P F G K C D) (X : tx_I m P F G K C D fc fn tp tf ts pc pd) {k : Nat} (hk : k < 3)
    (h : post (nI (tb_ld P (tb_c P F G K C k) 12))) :
    ∀ e i, i + e = 12 → wX_load_15 post (nI k) fc fn tp tf ts pc pd ac ad ap jl jd lr rs (e + 1) (nI (tb_ld P (tb_c P F G K C k) i)) (nI i) := by
  intro e
  induction e with
  | zero =>
    intro i hi
    have e1 : i = 12 := by omega
    subst e1
    exact pk_le 12 12 (fun _ => h) (fun h => absurd h (by omega))
  | succ e ih =>
    intro i hi
    have hc : (nI i).toNatClampNeg = i := nI_clamp (by omega)
    have hin : vp_in (nI i) 13 := vp_in_nI (by omega) (by omega)
    have hb := sm_Pb TB i
    have eP : tp (nI i).toNatClampNeg = nI (P i) := by rw [hc]; exact (X.2.2.1 i (by omega)).1
    have nx := ih (i + 1) (by omega)
    have hx : nI k * 13 + nI i = nI (k * 13 + i) := by rw [show (13 : Int32) = nI 13 from rfl, pk_mul, nI_add]
    refine pk_le 12 i (fun h => absurd h (by omega)) (fun _ => ⟨hin, pk_le (P i) 0 (fun z => ?_) (fun z => ?_) eP⟩)
    · have e1 : tb_ld P (tb_c P F G K C k) (i + 1) = tb_ld P (tb_c P F G K C k) i := if_pos (by omega)
      rw [e1] at nx
      exact nm_r (nI_1 i) nx
    · have e1 : tb_ld P (tb_c P F G K C k) (i + 1) = tb_ld P (tb_c P F G K C k) i + tb_c P F G K C k i * (60 / P i) := if_neg (by omega)
      rw [e1] at nx
      refine ⟨pk_in (k * 13 + i) 39 (by omega) hx, hin, by rw [eP]; exact nI_ne0 z (by omega), nm_r ?_ (nm_r (nI_1 i) nx)⟩
      rw [eP, pk_cl (k * 13 + i) hx, (X.2.2.2 k i hk (by omega)).1, show (60 : Int32) = nI 60 from rfl, pk_div (by omega) z (by omega), pk_mul, nI_add]
theorem ld_Y {post : Int32 → SY → Prop} (TB : tb_ok m P F G K C D) {k : Nat} (T : ru_T wc wd wp (tb_c P F G K C k) (tb_d F G K D k) P)
    (h : post (nI (tb_ld P (tb_c P F G K C k) 12)) (g, yP, yC, yD, yF, yO, yS, wc, wd, wp, wl, wu, wn, wr)) :
    ∀ e i, i + e = 12 → wY_load_20 post g yP yC yD yF yO yS wc wd wp wl wu wn wr (e + 1) (nI (tb_ld P (tb_c P F G K C k) i)) (nI i) := by
  intro e
  induction e with
  | zero =>
    intro i hi
    have e1 : i = 12 := by omega
    subst e1
    exact pk_le 12 12 (fun _ => h) (fun h => absurd h (by omega))
  | succ e ih =>
    intro i hi
    have hc : (nI i).toNatClampNeg = i := nI_clamp (by omega)
    have hin : vp_in (nI i) 13 := vp_in_nI (by omega) (by omega)
    have hb := sm_Pb TB i
    have hcb := sm_cb TB (k := k) i
    have eC : wc (nI i).toNatClampNeg = nI (tb_c P F G K C k i) := by rw [hc]; exact (T i (by omega)).1
    have nx := ih (i + 1) (by omega)
    refine pk_le 12 i (fun h => absurd h (by omega)) (fun _ => ⟨hin, pk_le (tb_c P F G K C k i) 0 (fun z => ?_) (fun z => ?_) eC⟩)
    · have e1 : tb_ld P (tb_c P F G K C k) (i + 1) = tb_ld P (tb_c P F G K C k) i := by
        show (if P i = 0 then _ else _) = _
        have z' : tb_c P F G K C k i = 0 := by omega
        rw [z', Nat.zero_mul, Nat.add_zero]
        split <;> rfl
      rw [e1] at nx
      exact nm_r (nI_1 i) nx
    · have hp := tb_c_pos z
      have eP : wp (nI i).toNatClampNeg = nI (P i) := by rw [hc]; exact ((T i (by omega)).2 z).2
      have e1 : tb_ld P (tb_c P F G K C k) (i + 1) = tb_ld P (tb_c P F G K C k) i + tb_c P F G K C k i * (60 / P i) := if_neg (by omega)
      rw [e1] at nx
      refine ⟨hin, pk_le (P i) 0 (fun h => absurd h (by omega)) (fun _ => ⟨hin, hin, by rw [eP]; exact nI_ne0 hp (by omega), nm_r ?_ (nm_r (nI_1 i) nx)⟩) eP⟩
      rw [eP, eC, show (60 : Int32) = nI 60 from rfl, pk_div (by omega) hp (by omega), pk_mul, nI_add]
end
theorem rm_X {m : Nat} {P F G K C D : Nat → Nat} {fc fn : Int32} {tp tf ts pc pd pc' pd' : Nat → Int32} (X : tx_I m P F G K C D fc fn tp tf ts pc pd) {i : Nat} (hi : i < 12) (hp : 0 < P i)
    (h : ∀ k a, k < 3 → a < 13 → pc' (k * 13 + a) = (if a = i then 0 else pc (k * 13 + a)) ∧ (a ≠ i → pd' (k * 13 + a) = pd (k * 13 + a))) :
    fn - 1 = nI (tb_n (ed_up P i 0) 12) ∧ tx_I m (ed_up P i 0) F G K C D fc (fn - 1) (upd tp i 0) tf ts pc' pd' := by
  obtain ⟨x1, x2, x3, x4⟩ := X
  have hs := tb_n_sub hp hi
  have e1 : fn - 1 = nI (tb_n (ed_up P i 0) 12) := by rw [x2, ← hs, nI_pred]
  refine ⟨e1, x1, e1, fun a ha => ?_, fun k a hk ha => ?_⟩
  · by_cases z : a = i
    · subst z
      rw [pk_us, ed_up_s]
      exact ⟨rfl, fun h => absurd h (Nat.lt_irrefl 0)⟩
    · rw [pk_un z, ed_up_n z]
      exact x3 a ha
  · obtain ⟨g1, g2⟩ := h k a hk ha
    by_cases z : a = i
    · subst z
      have t0 : tb_c (ed_up P a 0) F G K C k a = 0 := if_pos ed_up_s
      rw [t0, g1, if_pos rfl]
      exact ⟨rfl, fun h => absurd h (Nat.lt_irrefl 0)⟩
    · have t0 : tb_c (ed_up P i 0) F G K C k a = tb_c P F G K C k a := by unfold tb_c; rw [ed_up_n z]
      rw [t0, g1, if_neg z, g2 z]
      exact x4 k a hk ha
theorem rm_Y {m : Nat} {P F G K C D : Nat → Nat} {g : Int32} {yP yC yD yF yO yS : Nat → Int32} (Y : ty_I m P F G K C D g yP yC yD yF yO yS) (i : Nat) :
    ty_I m (ed_up P i 0) F G K C D g (upd yP i 0) yC yD yF yO yS := by
  refine ⟨Y.1, fun a ha => ?_⟩
  by_cases z : a = i
  · subst z
    rw [pk_us, ed_up_s]
    exact ⟨rfl, fun h => absurd h (Nat.lt_irrefl 0)⟩
  · rw [pk_un z, ed_up_n z]
    exact Y.2 a ha
theorem i_vc_remove {k : Nat} {u : SX} {v : SY} (I : i_Rel k u v) (hk : k + 4 ≤ 2049) (v1 : Int32) : wpX_remove (fun r u' => wpY_remove (fun r' v' => r' = r ∧ i_Rel (k + 4) u' v') v v1) u v1 := by
  have I' := i_up I
  obtain ⟨fc, fn, tp, tf, ts, pc, pd, ac, ad, ap, jl, jd, lr, rs⟩ := u
  obtain ⟨g, yP, yC, yD, yF, yO, yS, wc, wd, wp, wl, wu, wn, wr⟩ := v
  obtain ⟨m, P, F, G, K, C, D, TB, X, Y⟩ := I
  unfold wpX_remove wpY_remove
  rcases sm_ix_c v1 (fun q => q < 12 ∧ 0 < P q) with ⟨i, ⟨hi, hp⟩, rfl⟩ | hn
  · have hc : (nI i).toNatClampNeg = i := nI_clamp (by omega)
    have hb := sm_Pb TB i
    refine sm_tkX1 X hi hp hb (br_f (by decide) ⟨4, rm_l (pc := pc) (pd := pd) (by omega) (fun pc' pd' h => ?_) 3 0 rfl pc pd (fun k a _ _ => ⟨by rw [if_neg (fun w => by omega)], fun _ => rfl⟩)⟩)
    refine sm_tkY1 Y hi hp hb (br_t rfl ⟨vp_in_nI hi (by omega), fun yP' e => ?_⟩)
    rw [hc] at e
    subst e
    obtain ⟨r1, r2⟩ := rm_X X hi hp h
    have Y' := rm_Y Y i
    have TB' := tb_rem TB i
    exact sm_cntw (P := ed_up P i 0) (fun a ha => (Y'.2 a ha).1) (sm_Pb TB') ⟨r1.symm, ir_mk TB' r2 Y'⟩
  · exact sm_tkX0 X hn (br_t rfl (sm_tkY0 Y hn (br_f (by decide) ⟨rfl, I'⟩)))
theorem i_vc_load {k : Nat} {u : SX} {v : SY} (I : i_Rel k u v) (hk : k + 4 ≤ 2049) (v1 : Int32) : wpX_load (fun r => wpY_load (fun r' v' => r' = r ∧ i_Rel (k + 4) u v') v v1) u v1 := by
  have I' := i_up I
  obtain ⟨fc, fn, tp, tf, ts, pc, pd, ac, ad, ap, jl, jd, lr, rs⟩ := u
  obtain ⟨g, yP, yC, yD, yF, yO, yS, wc, wd, wp, wl, wu, wn, wr⟩ := v
  obtain ⟨m, P, F, G, K, C, D, TB, X, Y⟩ := I
  have hm := TB.1
  unfold wpX_load wpY_load
  rcases sm_ix_c v1 (fun q => q < m) with ⟨c, hc, rfl⟩ | hn
  · refine sm_crX1 X hm.2 hc (br_f (by decide) ⟨13, ld_X TB X (k := c) (by omega) ?_ 12 0 rfl⟩)
    refine sm_crY1 Y hm.2 hc (br_t rfl (fy_parts TB Y (by omega) (fun wc' wd' wp' T => ?_)))
    exact ⟨13, ld_Y TB T ⟨rfl, ir_mk TB X Y⟩ 12 0 rfl⟩
  · exact sm_crX0 X hm.2 hn (br_t rfl (sm_crY0 Y hm.2 hn (br_f (by decide) ⟨rfl, I'⟩)))
theorem i_vc_running {k : Nat} {u : SX} {v : SY} (I : i_Rel k u v) (hk : k + 4 ≤ 2049) (v1 : Int32) (v2 : Int32) : wpX_running (fun r u' => wpY_running (fun r' v' => r' = r ∧ i_Rel (k + 4) u' v') v v1 v2) u v1 v2 := by
  have I' := i_up I
  obtain ⟨fc, fn, tp, tf, ts, pc, pd, ac, ad, ap, jl, jd, lr, rs⟩ := u
  obtain ⟨g, yP, yC, yD, yF, yO, yS, wc, wd, wp, wl, wu, wn, wr⟩ := v
  obtain ⟨m, P, F, G, K, C, D, TB, X, Y⟩ := I
  have hm := TB.1
  unfold wpX_running wpY_running
  rcases sm_ix_c v1 (fun q => q < m) with ⟨c, hc, rfl⟩ | hn
  · have V := tb_V TB hc
    have ok := TB.2.2.2 c hc
    refine sm_crX1 X hm.2 hc (br_f (by decide) (br_c (fun h0 => ?_) (fun h0 => br_c (fun h60 => ?_) (fun h60 => ?_))))
    · exact sm_crY1 Y hm.2 hc (br_t rfl (br_t h0 ⟨rfl, I'⟩))
    · obtain ⟨s, hs, rfl⟩ := nI_of h0
      have s60 : s < 60 := (nI_ltI (b := 60) hs (by omega)).mp h60
      have hcs : (nI s).toNatClampNeg = s := nI_clamp (by omega)
      refine fx_take X (by omega) (fun ac' ad' ap' T => ?_)
      refine rx_run V T (fun _ jl' jd' lr' rs' _ S => ⟨vp_in_nI s60 (by omega), ?_⟩) (fun z => absurd ok z)
      refine sm_crY1 Y hm.2 hc (br_t rfl (br_f h0 (pk_le s 59 (fun _ => ?_) (fun h => absurd h (by omega)))))
      refine fy_parts TB Y (by omega) (fun wc' wd' wp' T' => ?_)
      refine ry_run V T' (fun _ wl' wu' wn' wr' _ S' => ⟨vp_in_nI s60 (by omega), ?_, ir_mk TB X Y⟩) (fun z => absurd ok z)
      rw [hcs]
      exact (S' s s60).trans (S s s60).symm
    · have h59 : ¬ v2 ≤ 59 := fun z => h60 (Int32.lt_of_le_of_lt z (by decide))
      exact sm_crY1 Y hm.2 hc (br_t rfl (br_f h0 (br_f h59 ⟨rfl, I'⟩)))
  · exact sm_crX0 X hm.2 hn (br_t rfl (sm_crY0 Y hm.2 hn (br_f (by decide) ⟨rfl, I'⟩)))
theorem i_vc_response {k : Nat} {u : SX} {v : SY} (I : i_Rel k u v) (hk : k + 4 ≤ 2049) (v1 : Int32) (v2 : Int32) : wpX_response (fun r u' => wpY_response (fun r' v' => r' = r ∧ i_Rel (k + 4) u' v') v v1 v2) u v1 v2 := by
  have I' := i_up I
  obtain ⟨fc, fn, tp, tf, ts, pc, pd, ac, ad, ap, jl, jd, lr, rs⟩ := u
  obtain ⟨g, yP, yC, yD, yF, yO, yS, wc, wd, wp, wl, wu, wn, wr⟩ := v
  obtain ⟨m, P, F, G, K, C, D, TB, X, Y⟩ := I
  have hm := TB.1
  unfold wpX_response wpY_response
  rcases sm_ix_c v1 (fun q => q < m) with ⟨c, hc, rfl⟩ | hn
  · have V := tb_V TB hc
    have ok := TB.2.2.2 c hc
    refine sm_crX1 X hm.2 hc (br_f (by decide) ?_)
    rcases sm_ix_c v2 (fun q => q < 12 ∧ 0 < P q) with ⟨i, ⟨hi, hp⟩, rfl⟩ | hn2
    · have hci : (nI i).toNatClampNeg = i := nI_clamp (by omega)
      have hb := sm_Pb TB i
      have hcb := sm_cb TB (k := c) i
      have hx : nI c * 13 + nI i = nI (c * 13 + i) := by rw [show (13 : Int32) = nI 13 from rfl, pk_mul, nI_add]
      have e1 : pc (nI c * 13 + nI i).toNatClampNeg = nI (tb_c P F G K C c i) := by
        rw [pk_cl (c * 13 + i) hx]; exact (X.2.2.2 c i (by omega) (by omega)).1
      refine sm_tkX1 X hi hp hb (br_f (by decide) ⟨pk_in (c * 13 + i) 39 (by omega) hx, pk_eq (tb_c P F G K C c i) 0 (fun z => ?_) (fun z => ?_) e1⟩)
      · refine sm_crY1 Y hm.2 hc (br_t rfl (sm_tkY1 Y hi hp hb (br_t rfl (fy_parts TB Y (by omega) (fun wc' wd' wp' T' => ⟨vp_in_nI (by omega) (by omega), ?_⟩)))))
        refine br_t ?_ ⟨rfl, ir_mk TB X Y⟩
        rw [hci, (T' i (by omega)).1, z]; rfl
      · refine fx_take X (by omega) (fun ac' ad' ap' T => ?_)
        refine rx_run V T (fun _ jl' jd' lr' rs' R _ => ⟨vp_in_nI (by omega) (by omega), ?_⟩) (fun z => absurd ok z)
        refine sm_crY1 Y hm.2 hc (br_t rfl (sm_tkY1 Y hi hp hb (br_t rfl (fy_parts TB Y (by omega) (fun wc' wd' wp' T' => ⟨vp_in_nI (by omega) (by omega), ?_⟩)))))
        refine br_f ?_ (ry_run V T' (fun _ wl' wu' wn' wr' R' _ => ⟨vp_in_nI (by omega) (by omega), ?_, ir_mk TB X Y⟩) (fun z => absurd ok z))
        · rw [hci, (T' i (by omega)).1]; exact nI_ne0 (by omega) (by omega)
        · rw [hci]
          exact (R' i (by omega)).trans (R i (by omega)).symm
    · exact sm_tkX0 X hn2 (br_t rfl (sm_crY1 Y hm.2 hc (br_t rfl (sm_tkY0 Y hn2 (br_f (by decide) ⟨rfl, I'⟩)))))
  · exact sm_crX0 X hm.2 hn (br_t rfl (sm_crY0 Y hm.2 hn (br_f (by decide) ⟨rfl, I'⟩)))
