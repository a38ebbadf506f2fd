/-- the relation: one table behind both states -/
def i_Rel (_ : Nat) (u : SX) (v : SY) : Prop :=
  ∃ (m : Nat) (P F G K C D : Nat → Nat), tb_ok m P F G K C D ∧
    tx_I m P F G K C D u.1 u.2.1 u.2.2.1 u.2.2.2.1 u.2.2.2.2.1 u.2.2.2.2.2.1 u.2.2.2.2.2.2.1 ∧
    ty_I m P F G K C D v.1 v.2.1 v.2.2.1 v.2.2.2.1 v.2.2.2.2.1 v.2.2.2.2.2.1 v.2.2.2.2.2.2.1
theorem i_up {k : Nat} {u : SX} {v : SY} (h : i_Rel k u v) : i_Rel (k + 4) u v := h
section
variable {fc fn : Int32} {tp tf ts pc pd ac ad ap jl jd lr rs : Nat → Int32} {m : Nat} {P F G K C D : Nat → Nat}
variable {g : Int32} {yP yC yD yF yO yS wc wd wp wl wu wn wr : Nat → Int32}
theorem ir_mk {n : Nat} (TB : tb_ok m P F G K C D) (X : tx_I m P F G K C D fc fn tp tf ts pc pd) (Y : ty_I m P F G K C D g yP yC yD yF yO yS) :
    i_Rel n (fc, fn, tp, tf, ts, pc, pd, ac, ad, ap, jl, jd, lr, rs) (g, yP, yC, yD, yF, yO, yS, wc, wd, wp, wl, wu, wn, wr) :=
  ⟨m, P, F, G, K, C, D, TB, X, Y⟩
end
theorem ir_newX (m : Nat) : tx_I m (fun _ => 0) (fun _ => 0) (fun _ => 0) (fun _ => 0) (fun _ => 0) (fun _ => 0) (nI m) 0 (fun _ => 0) (fun _ => 0) (fun _ => 0) (fun _ => 0) (fun _ => 0) := by
  refine ⟨rfl, rfl, fun i _ => ⟨rfl, fun h => absurd h (Nat.lt_irrefl 0)⟩, fun k i _ _ => ?_⟩
  have e : tb_c (fun _ => 0) (fun _ => 0) (fun _ => 0) (fun _ => 0) (fun _ => 0) k i = 0 := if_pos rfl
  rw [e]
  exact ⟨rfl, fun h => absurd h (Nat.lt_irrefl 0)⟩
theorem ir_newY (m : Nat) : ty_I m (fun _ => 0) (fun _ => 0) (fun _ => 0) (fun _ => 0) (fun _ => 0) (fun _ => 0) (nI m) (fun _ => 0) (fun _ => 0) (fun _ => 0) (fun _ => 0) (fun _ => 0) (fun _ => 0) :=
  ⟨rfl, fun i _ => ⟨rfl, fun h => absurd h (Nat.lt_irrefl 0)⟩⟩
theorem i_vc0 (k0 : Int32) : wpX_init (fun u => wpY_init (fun v => i_Rel 1 u v) k0) k0 := by
  have F : ∀ m, 1 ≤ m → m ≤ 3 → i_Rel 1 (nI m, 0, (fun _ => 0), (fun _ => 0), (fun _ => 0), (fun _ => 0), (fun _ => 0), (fun _ => 0), (fun _ => 0), (fun _ => 0), (fun _ => 0), (fun _ => 0), (fun _ => 0), (fun _ => 0))
      (nI m, (fun _ => 0), (fun _ => 0), (fun _ => 0), (fun _ => 0), (fun _ => 0), (fun _ => 0), (fun _ => 0), (fun _ => 0), (fun _ => 0), (fun _ => 0), (fun _ => 0), (fun _ => 0), (fun _ => 0)) :=
    fun m h1 h3 => ir_mk (tb_new h1 h3 _ _ _ _ _) (ir_newX m) (ir_newY m)
  refine br_c (fun h1 => br_c (fun h3 => ?_) (fun h3 => ?_)) (fun h1 => ?_)
  · refine br_t h1 (br_t h3 ?_)
    have h0 : ¬ k0 < 0 := fun z => Int32.lt_irrefl (Int32.lt_of_lt_of_le z (Int32.le_trans (by decide) h1))
    obtain ⟨j, hj, rfl⟩ := nI_of h0
    have j1 : 1 ≤ j := (nI_leI (a := 1) (by omega) hj).mp h1
    have j3 : j ≤ 3 := (nI_leI (b := 3) hj (by omega)).mp h3
    exact F j j1 j3
  · exact br_t h1 (br_f h3 (F 3 (by omega) (by omega)))
  · exact br_f h1 (br_t (by decide) (F 1 (by omega) (by omega)))
theorem i_vc_core {k : Nat} {u : SX} {v : SY} (I : i_Rel k u v) (hk : k + 4 ≤ 2049) (v1 : Int32) : wpX_core (fun r => wpY_core (fun r' => r' = r ∧ i_Rel (k + 4) u v) v v1) u v1 := by
  have I' := i_up I
  obtain ⟨fc, fn, tp, tf, ts, pc, pd, ac, ad, ap, jl, jd, lr, rs⟩ := u
  obtain ⟨g, yP, yC, yD, yF, yO, yS, wc, wd, wp, wl, wu, wn, wr⟩ := v
  obtain ⟨m, P, F, G, K, C, D, TB, X, Y⟩ := I
  unfold wpX_core wpY_core
  rcases sm_ix_c v1 (fun q => q < 12 ∧ 0 < P q) with ⟨i, ⟨hi, hp⟩, rfl⟩ | hn
  · have hc : (nI i).toNatClampNeg = i := nI_clamp (by omega)
    have hb := sm_Pb TB i
    refine sm_tkX1 X hi hp hb (br_f (by decide) ⟨vp_in_nI (by omega) (by omega), ?_⟩)
    refine sm_tkY1 Y hi hp hb (br_t rfl ⟨vp_in_nI (by omega) (by omega), ?_, I'⟩)
    rw [hc]
    exact ((Y.2 i hi).2 hp).1.trans ((X.2.2.1 i (by omega)).2 hp).1.symm
  · exact sm_tkX0 X hn (br_t rfl (sm_tkY0 Y hn (br_f (by decide) ⟨rfl, I'⟩)))
theorem i_vc_secondCore {k : Nat} {u : SX} {v : SY} (I : i_Rel k u v) (hk : k + 4 ≤ 2049) (v1 : Int32) : wpX_secondCore (fun r => wpY_secondCore (fun r' => r' = r ∧ i_Rel (k + 4) u v) v v1) u v1 := by
  have I' := i_up I
  obtain ⟨fc, fn, tp, tf, ts, pc, pd, ac, ad, ap, jl, jd, lr, rs⟩ := u
  obtain ⟨g, yP, yC, yD, yF, yO, yS, wc, wd, wp, wl, wu, wn, wr⟩ := v
  obtain ⟨m, P, F, G, K, C, D, TB, X, Y⟩ := I
  unfold wpX_secondCore wpY_secondCore
  rcases sm_ix_c v1 (fun q => q < 12 ∧ 0 < P q) with ⟨i, ⟨hi, hp⟩, rfl⟩ | hn
  · have hc : (nI i).toNatClampNeg = i := nI_clamp (by omega)
    have hb := sm_Pb TB i
    refine sm_tkX1 X hi hp hb (br_f (by decide) ⟨vp_in_nI (by omega) (by omega), ?_⟩)
    refine sm_tkY1 Y hi hp hb (br_t rfl ⟨vp_in_nI (by omega) (by omega), ?_, I'⟩)
    rw [hc]
    exact ((Y.2 i hi).2 hp).2.1.trans ((X.2.2.1 i (by omega)).2 hp).2.symm
  · exact sm_tkX0 X hn (br_t rfl (sm_tkY0 Y hn (br_f (by decide) ⟨rfl, I'⟩)))
theorem i_vc_firstCost {k : Nat} {u : SX} {v : SY} (I : i_Rel k u v) (hk : k + 4 ≤ 2049) (v1 : Int32) : wpX_firstCost (fun r => wpY_firstCost (fun r' => r' = r ∧ i_Rel (k + 4) u v) v v1) u v1 := by
  have I' := i_up I
  obtain ⟨fc, fn, tp, tf, ts, pc, pd, ac, ad, ap, jl, jd, lr, rs⟩ := u
  obtain ⟨g, yP, yC, yD, yF, yO, yS, wc, wd, wp, wl, wu, wn, wr⟩ := v
  obtain ⟨m, P, F, G, K, C, D, TB, X, Y⟩ := I
  have hm := TB.1
  unfold wpX_firstCost wpY_firstCost
  rcases sm_ix_c v1 (fun q => q < 12 ∧ 0 < P q) with ⟨i, ⟨hi, hp⟩, rfl⟩ | hn
  · have hc : (nI i).toNatClampNeg = i := nI_clamp (by omega)
    have hb := sm_Pb TB i
    have hF := (TB.2.2.1 i hp).2.2.1
    have eF : tf (nI i).toNatClampNeg = nI (F i) := by rw [hc]; exact ((X.2.2.1 i (by omega)).2 hp).1
    have hx : tf (nI i).toNatClampNeg * 13 + nI i = nI (F i * 13 + i) := by rw [eF, show (13 : Int32) = nI 13 from rfl, pk_mul, nI_add]
    refine sm_tkX1 X hi hp hb (br_f (by decide) ⟨vp_in_nI (by omega) (by omega), pk_in (F i * 13 + i) 39 (by omega) hx, ?_⟩)
    refine sm_tkY1 Y hi hp hb (br_t rfl ⟨vp_in_nI (by omega) (by omega), ?_, I'⟩)
    have hcx : (tf (nI i).toNatClampNeg * 13 + nI i).toNatClampNeg = F i * 13 + i := pk_cl (F i * 13 + i) hx
    have tc : tb_c P F G K C (F i) i = K i := by unfold tb_c; rw [if_neg (by omega), if_pos rfl]
    have e1 := (X.2.2.2 (F i) i (by omega) (by omega)).1
    rw [tc] at e1
    rw [hcx, hc]
    exact ((Y.2 i hi).2 hp).2.2.1.trans e1.symm
  · exact sm_tkX0 X hn (br_t rfl (sm_tkY0 Y hn (br_f (by decide) ⟨rfl, I'⟩)))
