/-! a task more, on both programs' fields -/
theorem ad_W_u {T : Nat → Nat → Nat → Prop} {m c d k k' : Nat} (h : ad_W T m c d k) (h' : ad_W T m c d k') : k' = k := by
  rcases Nat.lt_trichotomy k' k with z | z | z
  · exact absurd h'.2.1 (h.2.2 k' z)
  · exact z
  · exact absurd h.2.1 (h'.2.2 k z)
theorem ad_Z_u {T : Nat → Nat → Nat → Prop} {m c d x i j x' i' j' : Nat} (h : ad_Z T m c d x i j) (h' : ad_Z T m c d x' i' j') : x' = x ∧ i' = i ∧ j' = j := by
  obtain ⟨a1, a2, a3, a4, a5, a6⟩ := h
  obtain ⟨b1, b2, b3, b4, b5, b6⟩ := h'
  have ex : x' = x := by
    rcases Nat.lt_trichotomy x' x with z | z | z
    · exact absurd a3 (b4 x z a2 i j)
    · exact z
    · exact absurd b3 (a4 x' z b2 i' j')
  subst ex
  have ei : i' = i := by
    rcases Nat.lt_trichotomy i' i with z | z | z
    · exact absurd b3 (a5 i' z j')
    · exact z
    · exact absurd a3 (b5 i z j)
  subst ei
  have ej : j' = j := by
    rcases Nat.lt_trichotomy j' j with z | z | z
    · exact absurd b3 (a6 j' z)
    · exact z
    · exact absurd a3 (b6 j z)
  exact ⟨rfl, rfl, ej⟩
section
variable {fc fn : Int32} {tp tf ts pc pd pc' pd' : Nat → Int32} {m : Nat} {P F G K C D : Nat → Nat} {j c d pp : Nat}
variable {g : Int32} {yP yC yD yF yO yS : Nat → Int32}
theorem tx_add (X : tx_I m P F G K C D fc fn tp tf ts pc pd) {f h x : Nat} (hj : j < 12) (hP : P j = 0) (hp : 0 < pp)
    (H : ∀ k a, k < 3 → a < 13 → a ≠ j → pc' (k * 13 + a) = pc (k * 13 + a) ∧ pd' (k * 13 + a) = pd (k * 13 + a))
    (Hj : ∀ k, k < 3 → pc' (k * 13 + j) = nI (if f = k then x else if h = k then c - x else 0) ∧
      (f = k → pd' (k * 13 + j) = nI (if h = 3 then d else x)) ∧ (f ≠ k → h = k → pd' (k * 13 + j) = nI (d - x))) {z : Int32} (hz : z = tb_g h) :
    tx_I m (ed_up P j pp) (ed_up F j f) (ed_up G j h) (ed_up K j x) (ed_up C j c) (ed_up D j d) fc (fn + 1) (upd tp j (nI pp)) (upd tf j (nI f)) (upd ts j z) pc' pd' := by
  obtain ⟨x1, x2, x3, x4⟩ := X
  refine ⟨x1, ?_, fun a ha => ?_, fun k a hk ha => ?_⟩
  · rw [x2, nI_1, tb_n_add hP hp hj]
  · by_cases e : a = j
    · subst e
      rw [pk_us, pk_us, pk_us, ed_up_s, ed_up_s, ed_up_s]
      exact ⟨rfl, fun _ => ⟨rfl, hz⟩⟩
    · rw [pk_un e, pk_un e, pk_un e, ed_up_n e, ed_up_n e, ed_up_n e]
      exact x3 a ha
  · by_cases e : a = j
    · subst e
      obtain ⟨g1, g2, g3⟩ := Hj k hk
      have tc : tb_c (ed_up P a pp) (ed_up F a f) (ed_up G a h) (ed_up K a x) (ed_up C a c) k a = if f = k then x else if h = k then c - x else 0 := by
        unfold tb_c
        rw [ed_up_s, ed_up_s, ed_up_s, ed_up_s, ed_up_s, if_neg (by omega)]
      have td : tb_d (ed_up F a f) (ed_up G a h) (ed_up K a x) (ed_up D a d) k a = if f = k then (if h = 3 then d else x) else d - x := by
        unfold tb_d
        rw [ed_up_s, ed_up_s, ed_up_s, ed_up_s]
      rw [tc, td]
      refine ⟨g1, fun w => ?_⟩
      by_cases e1 : f = k
      · rw [if_pos e1]; exact g2 e1
      · rw [if_neg e1] at w ⊢
        by_cases e2 : h = k
        · exact g3 e1 e2
        · rw [if_neg e2] at w; exact absurd w (Nat.lt_irrefl 0)
    · have tc : tb_c (ed_up P j pp) (ed_up F j f) (ed_up G j h) (ed_up K j x) (ed_up C j c) k a = tb_c P F G K C k a := by
        unfold tb_c
        rw [ed_up_n e, ed_up_n e, ed_up_n e, ed_up_n e, ed_up_n e]
      have td : tb_d (ed_up F j f) (ed_up G j h) (ed_up K j x) (ed_up D j d) k a = tb_d F G K D k a := by
        unfold tb_d
        rw [ed_up_n e, ed_up_n e, ed_up_n e, ed_up_n e]
      obtain ⟨g1, g2⟩ := H k a hk ha e
      rw [tc, td, g1, g2]
      exact x4 k a hk ha
theorem tx_zero (X : tx_I m P F G K C D fc fn tp tf ts pc pd) (hj : j < 12) (hP : P j = 0) {k : Nat} (hk : k < 3) : pc (k * 13 + j) = 0 := by
  have h := (X.2.2.2 k j hk (by omega)).1
  have t0 : tb_c P F G K C k j = 0 := if_pos hP
  rw [t0] at h
  exact h
theorem ty_add (Y : ty_I m P F G K C D g yP yC yD yF yO yS) {f h x : Nat} {z : Int32} (hz : z = tb_g h) :
    ty_I m (ed_up P j pp) (ed_up F j f) (ed_up G j h) (ed_up K j x) (ed_up C j c) (ed_up D j d) g
      (upd yP j (nI pp)) (upd yC j (nI c)) (upd yD j (nI d)) (upd yF j (nI x)) (upd yO j (nI f)) (upd yS j z) := by
  refine ⟨Y.1, fun a ha => ?_⟩
  by_cases e : a = j
  · subst e
    rw [pk_us, pk_us, pk_us, pk_us, pk_us, pk_us, ed_up_s, ed_up_s, ed_up_s, ed_up_s, ed_up_s, ed_up_s]
    exact ⟨rfl, fun _ => ⟨rfl, hz, rfl, rfl, rfl⟩⟩
  · rw [pk_un e, pk_un e, pk_un e, pk_un e, pk_un e, pk_un e, ed_up_n e, ed_up_n e, ed_up_n e, ed_up_n e, ed_up_n e, ed_up_n e]
    exact Y.2 a ha
theorem ir_W {n k : Nat} {ac ad ap jl jd lr rs wc wd wp wl wu wn wr : Nat → Int32} (TB : tb_ok m P F G K C D) (X : tx_I m P F G K C D fc fn tp tf ts pc pd) (Y : ty_I m P F G K C D g yP yC yD yF yO yS)
    (hj : j < 12) (hP : P j = 0) (a0 : 1 ≤ c) (a1 : c ≤ d) (a2 : d ≤ pp) (a3 : pp ≤ 60) (a4 : 60 % pp = 0) (W : ad_W (tb_T P F G K C D j pp) m c d k) :
    i_Rel n (fc, fn + 1, upd tp j (nI pp), upd tf j (nI k), upd ts j (-4), upd pc (k * 13 + j) (nI c), upd pd (k * 13 + j) (nI d), ac, ad, ap, jl, jd, lr, rs)
      (g, upd yP j (nI pp), upd yC j (nI c), upd yD j (nI d), upd yF j (nI c), upd yO j (nI k), upd yS j (-4), wc, wd, wp, wl, wu, wn, wr) := by
  have hm := TB.1
  obtain ⟨w1, w2, w3⟩ := W
  have TB' := tb_add TB hj hP (pp := pp) (f := k) (g := 3) (x := c) (c := c) (d := d) (by omega) ⟨a3, a4, w1, a0, a2, a1, Or.inr ⟨rfl, rfl⟩⟩ w2 (fun h => by omega)
  refine ir_mk TB' (tx_add X hj hP (by omega) (fun k' a hk ha e => ⟨pk_un (by omega), pk_un (by omega)⟩) (fun k' hk => ?_) tb_g3.symm) (ty_add Y tb_g3.symm)
  by_cases e : k = k'
  · subst e
    rw [pk_us, pk_us, if_pos rfl]
    exact ⟨rfl, fun _ => rfl, fun h => absurd rfl h⟩
  · rw [pk_un (by omega), pk_un (by omega), if_neg e, if_neg (by omega), tx_zero X hj hP hk]
    exact ⟨rfl, fun h => absurd h e, fun _ h => by omega⟩
theorem ir_Z {n x i b : Nat} {ac ad ap jl jd lr rs wc wd wp wl wu wn wr : Nat → Int32} (TB : tb_ok m P F G K C D) (X : tx_I m P F G K C D fc fn tp tf ts pc pd) (Y : ty_I m P F G K C D g yP yC yD yF yO yS)
    (hj : j < 12) (hP : P j = 0) (a0 : 1 ≤ c) (a1 : c ≤ d) (a2 : d ≤ pp) (a3 : pp ≤ 60) (a4 : 60 % pp = 0) (Z : ad_Z (tb_T P F G K C D j pp) m c d x i b) :
    i_Rel n (fc, fn + 1, upd tp j (nI pp), upd tf j (nI i), upd ts j (nI b), upd (upd pc (i * 13 + j) (nI x)) (b * 13 + j) (nI (c - x)), upd (upd pd (i * 13 + j) (nI x)) (b * 13 + j) (nI (d - x)), ac, ad, ap, jl, jd, lr, rs)
      (g, upd yP j (nI pp), upd yC j (nI c), upd yD j (nI d), upd yF j (nI x), upd yO j (nI i), upd yS j (nI b), wc, wd, wp, wl, wu, wn, wr) := by
  have hm := TB.1
  obtain ⟨w1, w2, ⟨q1, q2, q3, q4, q5⟩, _⟩ := Z
  have b3 : b ≠ 3 := by omega
  have TB' := tb_add TB hj hP (pp := pp) (f := i) (g := b) (x := x) (c := c) (d := d) (by omega) ⟨a3, a4, q1, w1, a2, a1, Or.inl ⟨q2, fun h => q3 h.symm, w2⟩⟩ (by rw [if_neg b3]; exact q4) (fun _ => q5)
  refine ir_mk TB' (tx_add X hj hP (by omega) (fun k' a hk ha e => ⟨by rw [pk_un (by omega), pk_un (by omega)], by rw [pk_un (by omega), pk_un (by omega)]⟩) (fun k' hk => ?_) (tb_gn b3).symm) (ty_add Y (tb_gn b3).symm)
  by_cases e : i = k'
  · subst e
    have u1 : upd (upd pc (i * 13 + j) (nI x)) (b * 13 + j) (nI (c - x)) (i * 13 + j) = nI x := by rw [pk_un (by omega), pk_us]
    have u2 : upd (upd pd (i * 13 + j) (nI x)) (b * 13 + j) (nI (d - x)) (i * 13 + j) = nI x := by rw [pk_un (by omega), pk_us]
    rw [u1, u2, if_pos rfl, if_neg b3]
    exact ⟨rfl, fun _ => rfl, fun h => absurd rfl h⟩
  · by_cases e2 : b = k'
    · subst e2
      rw [pk_us, pk_us, if_neg e, if_pos rfl]
      exact ⟨rfl, fun h => absurd h e, fun _ _ => rfl⟩
    · rw [pk_un (by omega), pk_un (by omega), pk_un (by omega), if_neg e, if_neg e2, tx_zero X hj hP hk]
      exact ⟨rfl, fun h => absurd h e, fun _ h => absurd h e2⟩
end
theorem i_vc_admit {k : Nat} {u : SX} {v : SY} (I : i_Rel k u v) (hk : k + 4 ≤ 2049) (v1 : Int32) (v2 : Int32) (v3 : Int32) : wpX_admit (fun r u' => wpY_admit (fun r' v' => r' = r ∧ i_Rel (k + 4) u' v') v v1 v2 v3) u v1 v2 v3 := by
  have I' := i_up I
  obtain ⟨fc, fn, tp, tf, ts, pc, pd, ac, ad, ap, jl, jd, lr, rs⟩ := u
  obtain ⟨g, yP, yC, yD, yF, yO, yS, wc, wd, wp, wl, wu, wn, wr⟩ := v
  obtain ⟨m, P, F, G, K, C, D, TB, X, Y⟩ := I
  have hm := TB.1
  have hb := sm_Pb TB
  unfold wpX_admit
  rcases sm_per_c v3 with ⟨q, hq, rfl⟩ | hnq
  · refine sm_perX1 hq (br_f (by decide) (br_c (fun h1 => ?_) (fun h1 => br_c (fun h2 => ?_) (fun h2 => br_c (fun h3 => ?_) (fun h3 => ?_)))))
    · unfold wpY_admit
      exact sm_perY1 hq (br_t rfl (br_t h1 ⟨rfl, I'⟩))
    · unfold wpY_admit
      exact sm_perY1 hq (br_t rfl (br_f h1 (br_c (fun _ => ⟨rfl, I'⟩) (fun _ => br_c (fun _ => ⟨rfl, I'⟩) (fun _ => br_t h2 ⟨rfl, I'⟩)))))
    · obtain ⟨q1, q2, q3⟩ := hq
      have hv0 : ¬ v1 < 0 := fun z => h1 (Int32.lt_trans z (by decide))
      obtain ⟨c, hc, rfl⟩ := nI_of hv0
      have c1 : 1 ≤ c := by
        rcases Nat.lt_or_ge c 1 with z | z
        · exact absurd (nI_lt (b := 1) z (by omega)) h1
        · exact z
      have hd0 : ¬ v2 < 0 := fun z => hv0 (Int32.lt_of_le_of_lt h3 z)
      obtain ⟨d, hd, rfl⟩ := nI_of hd0
      have cd : c ≤ d := (nI_leI hc hd).mp h3
      have dq : d ≤ q := by
        rcases Nat.lt_or_ge q d with z | z
        · exact absurd (nI_lt z hd) h2
        · exact z
      have n1 : ¬ nI q < nI c := nI_nlt (by omega) (by omega)
      have n2 : ¬ nI d < 1 := nI_nlt (b := 1) (by omega) (by omega)
      have hle := tb_n_le P 12
      refine pk_lt (tb_n P 12) 12 (fun hn => ?_) (fun hn => ?_) X.2.1
      · obtain ⟨j, hf⟩ := tb_fr_ex P
        have hj := tb_fr_lt hf hn
        have hP : P j = 0 := hf.2.2 hj
        have ent : ∀ {post : Int32 → SY → Prop}, (∃ n63 : Nat, wY_admit_63 post (nI c) (nI d) (nI q) (nI j) n63 (-4) 0 g yP yC yD yF yO yS wc wd wp wl wu wn wr) →
            wpY_admit post (g, yP, yC, yD, yF, yO, yS, wc, wd, wp, wl, wu, wn, wr) (nI c) (nI d) (nI q) := by
          intro post h
          unfold wpY_admit
          exact sm_perY1 ⟨q1, q2, q3⟩ (br_t rfl (br_f h1 (br_f n1 (br_f n2 (br_f h2 (br_t h3 (sm_cntw (P := P) (fun i hi => (Y.2 i hi).1) hb
            (pk_eq (tb_n P 12) 12 (fun z => absurd z (by omega)) (fun _ => sm_frYw Y hb hf h)))))))))
        refine sm_frXw X hb hf (ax_W TB X (by omega) cd dq q2 q3 (fun kk W ac ad ap jl jd lr rs => br_f (by decide) (nm_e ?_)) (fun hnW ac ad ap jl jd lr rs => br_t rfl ?_))
        · refine ent ⟨m + 1, ay_63 TB Y hj c1 cd dq q2 q3 (fun k' W' wc wd wp wl wu wn wr => ?_) (fun n _ _ _ _ => absurd W.2.1 (n kk W.1)) (fun n _ => absurd W.2.1 (n kk W.1)) m 0 (by omega)
            (fun b hb => absurd hb (Nat.not_lt_zero b)) _ _ _ _ _ _ _⟩
          have e := ad_W_u W W'
          subst e
          exact ⟨rfl, ir_W TB X Y hj hP c1 cd dq q2 q3 W⟩
        · refine ax_S TB X (by omega) c1 cd dq q2 q3 (fun x i b Z ac ad ap jl jd lr rs => br_f (by decide) (nm_e ?_)) (fun hnZ ac ad ap jl jd lr rs => br_t rfl ?_)
          · refine ent ⟨m + 1, ay_63 TB Y hj c1 cd dq q2 q3 (fun k' W' => absurd W'.2.1 (hnW k' W'.1)) (fun n x' i' b' Z' wc wd wp wl wu wn wr => ?_)
              (fun n nz => absurd Z.2.2.1 (nz x Z.1 Z.2.1 i b)) m 0 (by omega) (fun b hb => absurd hb (Nat.not_lt_zero b)) _ _ _ _ _ _ _⟩
            obtain ⟨e1, e2, e3⟩ := ad_Z_u Z Z'
            subst e1 e2 e3
            exact ⟨rfl, ir_Z TB X Y hj hP c1 cd dq q2 q3 Z⟩
          · exact ent ⟨m + 1, ay_63 TB Y hj c1 cd dq q2 q3 (fun k' W' => absurd W'.2.1 (hnW k' W'.1)) (fun n x' i' b' Z' => absurd Z'.2.2.1 (hnZ x' Z'.1 Z'.2.1 i' b'))
              (fun n nz wc wd wp wl wu wn wr => ⟨rfl, ir_mk TB X Y⟩) m 0 (by omega) (fun b hb => absurd hb (Nat.not_lt_zero b)) _ _ _ _ _ _ _⟩
      · unfold wpY_admit
        exact sm_perY1 ⟨q1, q2, q3⟩ (br_t rfl (br_f h1 (br_f n1 (br_f n2 (br_f h2 (br_t h3 (sm_cntw (P := P) (fun i hi => (Y.2 i hi).1) hb
          (pk_eq (tb_n P 12) 12 (fun _ => ⟨rfl, I'⟩) (fun z => absurd z (by omega))))))))))
    · unfold wpY_admit
      exact sm_perY1 hq (br_t rfl (br_f h1 (br_c (fun _ => ⟨rfl, I'⟩) (fun _ => br_c (fun _ => ⟨rfl, I'⟩) (fun _ => br_f h2 (br_f h3 ⟨rfl, I'⟩))))))
  · refine sm_perX0 hnq (br_t rfl ?_)
    unfold wpY_admit
    exact sm_perY0 hnq (br_f (by decide) ⟨rfl, I'⟩)
