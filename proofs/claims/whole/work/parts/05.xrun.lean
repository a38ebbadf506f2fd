/-! the walks of the run, the first program -/
section
variable {fc fn : Int32} {tp tf ts pc pd ac ad ap jl jd lr rs : Nat → Int32} {c d p L D : Nat → Nat}
theorem rx_ne5 {b : Nat} (h : b < 2 ^ 31) : ¬ nI b = -5 := by
  intro e
  have h1 := nI_toInt h
  rw [e] at h1
  have h2 : (-5 : Int32).toInt = -5 := by decide
  omega
theorem rx_over_l {post : Int32 → Prop} (J : ru_J jl jd L D) {t : Nat} (ht : t ≤ 60) (h1 : ed_bad L D t → post 1) (h0 : ¬ ed_bad L D t → post 0) :
    ∀ e k, k + e = 13 → (∀ i, i < k → ¬ (0 < L i ∧ D i ≤ t)) → wX_isOverdue_2 post (nI t) fc fn tp tf ts pc pd ac ad ap jl jd lr rs (e + 1) (nI k) := by
  intro e
  induction e with
  | zero =>
    intro k hk hn
    have hk' : k = 13 := by omega
    subst hk'
    refine pk_le 13 13 (fun _ => ?_) (fun h => absurd h (by omega))
    exact h0 (fun ⟨i, hi, a, b⟩ => hn i hi ⟨a, b⟩)
  | succ e ih =>
    intro k hk hn
    have hc : (nI k).toNatClampNeg = k := nI_clamp (by omega)
    have hin : vp_in (nI k) 13 := vp_in_nI (by omega) (by omega)
    have hk13 : k < 13 := by omega
    obtain ⟨j1, j2, j3⟩ := J k hk13
    have eL : jl (nI k).toNatClampNeg = nI (L k) := by rw [hc]; exact j1
    refine pk_le 13 k (fun h => absurd h (by omega)) (fun _ => ⟨hin, pk_le (L k) 0 (fun h => ?_) (fun h => ?_) eL⟩)
    · exact nm_r (nI_1 k) (ih (k + 1) (by omega) (lt_s hn (fun z => by omega)))
    · obtain ⟨g1, g2⟩ := j3 h
      have eD : jd (nI k).toNatClampNeg = nI (D k) := by rw [hc]; exact g1
      refine ⟨hin, pk_lt t (D k) (fun g => ?_) (fun g => ?_) rfl eD⟩
      · exact nm_r (nI_1 k) (ih (k + 1) (by omega) (lt_s hn (fun z => by omega)))
      · exact h1 ⟨k, hk13, h, g⟩
theorem rx_over {post : Int32 → Prop} (J : ru_J jl jd L D) {t : Nat} (ht : t ≤ 60) (h1 : ed_bad L D t → post 1) (h0 : ¬ ed_bad L D t → post 0) :
    wpX_isOverdue post (fc, fn, tp, tf, ts, pc, pd, ac, ad, ap, jl, jd, lr, rs) (nI t) :=
  ⟨14, rx_over_l J ht h1 h0 13 0 rfl (fun i hi => absurd hi (Nat.not_lt_zero i))⟩
theorem rx_pick_l {post : Int32 → Prop} (J : ru_J jl jd L D) (h : post (ru_e (ed_pk L D 13))) :
    ∀ e k, k + e = 13 → wX_mostUrgentJob_5 post fc fn tp tf ts pc pd ac ad ap jl jd lr rs (e + 1) (ru_e (ed_pk L D k)) (nI k) := by
  intro e
  induction e with
  | zero =>
    intro k hk
    have hk' : k = 13 := by omega
    subst hk'
    exact pk_le 13 13 (fun _ => h) (fun h => absurd h (by omega))
  | succ e ih =>
    intro k hk
    have hc : (nI k).toNatClampNeg = k := nI_clamp (by omega)
    have hin : vp_in (nI k) 13 := vp_in_nI (by omega) (by omega)
    have hk13 : k < 13 := by omega
    obtain ⟨j1, j2, j3⟩ := J k hk13
    have eL : jl (nI k).toNatClampNeg = nI (L k) := by rw [hc]; exact j1
    have nx := ih (k + 1) (by omega)
    cases hb : ed_pk L D k with
    | none =>
      refine pk_le 13 k (fun h => absurd h (by omega)) (fun _ => ⟨hin, pk_le (L k) 0 (fun h => ?_) (fun h => ?_) eL⟩)
      · have e1 : ed_pk L D (k + 1) = none := by simp only [ed_pk, hb]; exact if_neg (by omega)
        rw [e1] at nx
        exact nm_r (nI_1 k) nx
      · have e1 : ed_pk L D (k + 1) = some k := by simp only [ed_pk, hb]; exact if_pos h
        rw [e1] at nx
        exact br_t rfl (nm_r (nI_1 k) nx)
    | some b =>
      obtain ⟨b1, b2, b3, b4⟩ := ed_pk_some hb
      have hcb : (nI b).toNatClampNeg = b := nI_clamp (by omega)
      have hinb : vp_in (nI b) 13 := vp_in_nI (by omega) (by omega)
      have hne : ¬ ru_e (some b) = -5 := rx_ne5 (by omega)
      obtain ⟨a1, a2, a3⟩ := J b (by omega)
      obtain ⟨a4, a5⟩ := a3 b2
      refine pk_le 13 k (fun h => absurd h (by omega)) (fun _ => ⟨hin, pk_le (L k) 0 (fun h => ?_) (fun h => br_f hne ⟨hin, hinb, ?_⟩) eL⟩)
      · have e1 : ed_pk L D (k + 1) = some b := by simp only [ed_pk, hb]; exact if_neg (by omega)
        rw [e1] at nx
        exact nm_r (nI_1 k) nx
      · obtain ⟨g1, g2⟩ := j3 h
        have eD : jd (nI k).toNatClampNeg = nI (D k) := by rw [hc]; exact g1
        have eB : jd (ru_e (some b)).toNatClampNeg = nI (D b) := by show jd (nI b).toNatClampNeg = _; rw [hcb]; exact a4
        refine pk_le (D b) (D k) (fun g => ?_) (fun g => ?_) eB eD
        · have e1 : ed_pk L D (k + 1) = some b := by simp only [ed_pk, hb]; exact if_neg (by omega)
          rw [e1] at nx
          exact nm_r (nI_1 k) nx
        · have e1 : ed_pk L D (k + 1) = some k := by simp only [ed_pk, hb]; exact if_pos ⟨h, g⟩
          rw [e1] at nx
          exact nm_r (nI_1 k) nx
theorem rx_pick {post : Int32 → Prop} (J : ru_J jl jd L D) (h : post (ru_e (ed_pk L D 13))) :
    wpX_mostUrgentJob post (fc, fn, tp, tf, ts, pc, pd, ac, ad, ap, jl, jd, lr, rs) :=
  ⟨14, rx_pick_l J h 13 0 rfl⟩
theorem rx_rel_l {post : SX → Prop} (V : ed_V c d p) (T : ru_T ac ad ap c d p) {t : Nat} (ht : t < 60)
    (H : ∀ jl' jd', ru_J jl' jd' (ed_L1 c p L t) (ed_D1 c d p D t) → post (fc, fn, tp, tf, ts, pc, pd, ac, ad, ap, jl', jd', lr, rs)) :
    ∀ e k, k + e = 13 → ∀ jl jd, ru_J jl jd (ru_mx k (ed_L1 c p L t) L) (ru_mx k (ed_D1 c d p D t) D) →
      wX_releaseJobs_2 post (nI t) fc fn (e + 1) (nI k) tp tf ts pc pd ac ad ap jl jd lr rs := by
  intro e
  induction e with
  | zero =>
    intro k hk jl jd J
    have hk' : k = 13 := by omega
    subst hk'
    exact pk_le 13 13 (fun _ => H jl jd (ru_J_13 J)) (fun h => absurd h (by omega))
  | succ e ih =>
    intro k hk jl jd J
    have hc : (nI k).toNatClampNeg = k := nI_clamp (by omega)
    have hin : vp_in (nI k) 13 := vp_in_nI (by omega) (by omega)
    have hk13 : k < 13 := by omega
    have eT : ac (nI k).toNatClampNeg = nI (c k) := by rw [hc]; exact (T k hk13).1
    have bc : c k ≤ 60 := ru_cb V hk13
    have keep : ¬ (0 < c k ∧ 0 < p k ∧ t % p k = 0) → ru_J jl jd (ru_mx (k + 1) (ed_L1 c p L t) L) (ru_mx (k + 1) (ed_D1 c d p D t) D) := by
      intro z
      rw [ru_mx_keep (ru_L1_n z), ru_mx_keep (ru_D1_n z)]; exact J
    refine pk_le 13 k (fun h => absurd h (by omega)) (fun _ => ⟨hin, pk_le (c k) 0 (fun h => ?_) (fun h => ?_) eT⟩)
    · exact nm_r (nI_1 k) (ih (k + 1) (by omega) jl jd (keep (fun z => by omega)))
    · obtain ⟨v1, v2, v3, v4⟩ := V k hk13 h
      obtain ⟨g1, g2⟩ := (T k hk13).2 h
      have eP : ap (nI k).toNatClampNeg = nI (p k) := by rw [hc]; exact g2
      refine ⟨hin, pk_le (p k) 0 (fun h => absurd h (by omega)) (fun hp => ⟨hin, ?_, ?_⟩) eP⟩
      · rw [eP]; exact nI_ne0 hp (by omega)
      · have eR : nI t - nI t / ap (nI k).toNatClampNeg * ap (nI k).toNatClampNeg = nI (t % p k) := by
          rw [eP]; exact pk_rem (by omega) hp (by omega)
        have bm : t % p k ≤ t := Nat.mod_le _ _
        refine pk_eq (t % p k) 0 (fun hm => ⟨hin, hin, fun jl' el => ⟨hin, hin, fun jd' eu => ?_⟩⟩) (fun hm => ?_) eR
        · rw [eT, hc] at el
          rw [hc, g1, nI_add] at eu
          subst el eu
          refine nm_r (nI_1 k) (ih (k + 1) (by omega) _ _ ?_)
          have J' := ru_J_up J (k := k) (x := c k) (y := t + d k) bc (by omega)
          rw [ru_mx_put, ru_mx_put, ru_L1_y h hp hm, ru_D1_y h hp hm]
          exact J'
        · exact nm_r (nI_1 k) (ih (k + 1) (by omega) jl jd (keep (fun z => hm z.2.2)))
theorem rx_rel {post : SX → Prop} (V : ed_V c d p) (T : ru_T ac ad ap c d p) (J : ru_J jl jd L D) {t : Nat} (ht : t < 60)
    (H : ∀ jl' jd', ru_J jl' jd' (ed_L1 c p L t) (ed_D1 c d p D t) → post (fc, fn, tp, tf, ts, pc, pd, ac, ad, ap, jl', jd', lr, rs)) :
    wpX_releaseJobs post (fc, fn, tp, tf, ts, pc, pd, ac, ad, ap, jl, jd, lr, rs) (nI t) :=
  ⟨14, rx_rel_l (L := L) (D := D) V T ht H 13 0 rfl jl jd (by rw [ru_mx_0, ru_mx_0]; exact J)⟩
/-- the slots so far, -5 in those to come -/
def ru_Z (rs : Nat → Int32) (B : Nat → Option Nat) (t : Nat) : Prop := (∀ s, s < t → rs s = ru_e (B s)) ∧ (∀ s, t ≤ s → s < 60 → rs s = -5)
theorem ru_Z_put {B : Nat → Option Nat} {t : Nat} {x : Int32} (H : ru_Z rs B t) (hx : x = ru_e (B t)) : ru_Z (upd rs t x) B (t + 1) :=
  ⟨ru_S_put H.1 hx, fun s h1 h2 => by rw [pk_un (by omega)]; exact H.2 s (by omega) h2⟩
theorem ru_Z_idle {B : Nat → Option Nat} {t : Nat} (ht : t < 60) (H : ru_Z rs B t) (hx : B t = none) : ru_Z rs B (t + 1) := by
  refine ⟨fun s h1 => ?_, fun s h1 h2 => H.2 s (by omega) h2⟩
  by_cases z : s = t
  · subst z; rw [hx]; exact H.2 s (Nat.le_refl _) ht
  · exact H.1 s (by omega)
theorem rx_job {post : SX → Prop} (V : ed_V c d p) (T : ru_T ac ad ap c d p) {t b : Nat} (ht : t < 60) (hB : ed_B c d p t = some b)
    (J : ru_J jl jd (ed_LA c d p t) (ed_DA c d p t)) (R : ∀ i, i < 13 → lr i = nI (ed_RR c d p t i)) (S : ru_Z rs (ed_B c d p) t)
    (H : ∀ jl' lr' rs', ru_J jl' jd (ed_LL c d p (t + 1)) (ed_DD c d p (t + 1)) → (∀ i, i < 13 → lr' i = nI (ed_RR c d p (t + 1) i)) →
      ru_Z rs' (ed_B c d p) (t + 1) → post (fc, fn, tp, tf, ts, pc, pd, ac, ad, ap, jl', jd, lr', rs')) :
    wpX_runJob post (fc, fn, tp, tf, ts, pc, pd, ac, ad, ap, jl, jd, lr, rs) (nI b) (nI t) := by
  obtain ⟨b1, b2, b3, b4⟩ := ed_pk_some hB
  have hct : (nI t).toNatClampNeg = t := nI_clamp (by omega)
  have hcb : (nI b).toNatClampNeg = b := nI_clamp (by omega)
  have hinb : vp_in (nI b) 13 := vp_in_nI (by omega) (by omega)
  obtain ⟨j1, j2, j3⟩ := J b b1
  obtain ⟨j4, j5⟩ := j3 b2
  obtain ⟨r1, r2⟩ := ru_rel b2
  have hcp : 0 < c b := by have := (ed_invB c d p t b b2).1; omega
  have hd : ad b = nI (d b) := ((T b b1).2 hcp).1
  have hR := ed_RR_le c d p t b
  refine ⟨vp_in_nI ht (by omega), fun rs' er => ⟨hinb, hinb, fun jl' el => ⟨hinb, ?_⟩⟩⟩
  rw [hct] at er
  rw [hcb, j1, show (1 : Int32) = nI 1 from rfl, pk_sub (by omega)] at el
  subst er el
  have J' : ru_J (upd jl b (nI (ed_LA c d p t b - 1))) jd (ed_LL c d p (t + 1)) (ed_DD c d p (t + 1)) := by
    rw [ed_LL_s, ed_DD_s, hB]; exact ru_J_run J b1 b2
  have S' : ru_Z (upd rs t (nI b)) (ed_B c d p) (t + 1) := ru_Z_put S (by rw [hB]; rfl)
  refine pk_eq (ed_LA c d p t b - 1) 0 (fun h => ?_) (fun h => ?_) (by rw [hcb, pk_us])
  · refine ⟨hinb, hinb, nm_r (e' := nI (ed_DA c d p t b - d b)) (by rw [hcb, j4, hd, pk_sub r1]) (nm_r (e' := nI (t + 1 - (ed_DA c d p t b - d b))) ?_ ⟨hinb,
      pk_le (t + 1 - (ed_DA c d p t b - d b)) (ed_RR c d p t b) (fun g => ?_) (fun g => ⟨hinb, fun lr' elr => ?_⟩) rfl (by rw [hcb]; exact R b b1)⟩)⟩
    · rw [pk_sub r2, nI_1]; exact congrArg nI (by omega)
    · refine H _ _ _ J' ?_ S'
      rw [ed_RR_s, hB]
      exact ru_R_run R (fun z => by omega)
    · rw [hcb] at elr
      subst elr
      refine H _ _ _ J' ?_ S'
      rw [ed_RR_s, hB]
      exact ru_R_put R ⟨by omega, g⟩
  · refine H _ _ _ J' ?_ S'
    rw [ed_RR_s, hB]
    exact ru_R_run R (fun z => by omega)
theorem rx_run_l {post : Int32 → SX → Prop} (V : ed_V c d p) (T : ru_T ac ad ap c d p)
    (h1 : ed_ok c d p 61 → ∀ jl' jd' lr' rs', (∀ i, i < 13 → lr' i = nI (ed_RR c d p 60 i)) → (∀ s, s < 60 → rs' s = ru_e (ed_B c d p s)) →
      post 1 (fc, fn, tp, tf, ts, pc, pd, ac, ad, ap, jl', jd', lr', rs'))
    (h0 : ¬ ed_ok c d p 61 → ∀ jl' jd' lr' rs', post 0 (fc, fn, tp, tf, ts, pc, pd, ac, ad, ap, jl', jd', lr', rs')) :
    ∀ e t, t + e = 60 → ∀ jl jd lr rs, ru_J jl jd (ed_LL c d p t) (ed_DD c d p t) → (∀ i, i < 13 → lr i = nI (ed_RR c d p t i)) →
      ru_Z rs (ed_B c d p) t → ed_ok c d p t →
      wX_runWithoutMiss_6 post (e + 1) (nI t) fc fn tp tf ts pc pd ac ad ap jl jd lr rs := by
  intro e
  induction e with
  | zero =>
    intro t ht jl jd lr rs J R S ok
    have ht' : t = 60 := by omega
    subst ht'
    refine pk_le 60 60 (fun _ => rx_over J (Nat.le_refl _) (fun hb => ?_) (fun hb => ?_)) (fun h => absurd h (by omega))
    · exact br_f (by decide) (h0 (fun z => z 60 (by omega) hb) _ _ _ _)
    · exact br_t rfl (h1 (lt_s ok hb) _ _ _ _ R S.1)
  | succ e ih =>
    intro t ht jl jd lr rs J R S ok
    refine pk_le 60 t (fun h => absurd h (by omega)) (fun _ => rx_over J (by omega) (fun hb => ?_) (fun hb => ?_))
    · exact br_f (by decide) (h0 (fun z => z t (by omega) hb) _ _ _ _)
    · refine br_t rfl (rx_rel V T J (by omega) (fun jl' jd' J' => ?_))
      have ok' : ed_ok c d p (t + 1) := lt_s ok hb
      refine rx_pick J' ?_
      cases hB : ed_B c d p t with
      | none =>
        have e1 : ed_pk (ed_L1 c p (ed_LL c d p t) t) (ed_D1 c d p (ed_DD c d p t) t) 13 = none := hB
        rw [e1]
        refine br_t rfl (nm_r (nI_1 t) (ih (t + 1) (by omega) _ _ _ _ ?_ ?_ (ru_Z_idle (by omega) S hB) ok'))
        · rw [ed_LL_s, ed_DD_s, hB]; exact J'
        · rw [ed_RR_s, hB, ru_R_idle]; exact R
      | some b =>
        have e1 : ed_pk (ed_L1 c p (ed_LL c d p t) t) (ed_D1 c d p (ed_DD c d p t) t) 13 = some b := hB
        rw [e1]
        have hb13 : b < 13 := (ed_pk_some e1).1
        refine br_f (rx_ne5 (by omega)) (rx_job V T (by omega) hB J' R S (fun jl2 lr2 rs2 J2 R2 S2 => ?_))
        exact nm_r (nI_1 t) (ih (t + 1) (by omega) _ _ _ _ J2 R2 S2 ok')
theorem rx_forget_b {post : SX → Prop}
    (H : ∀ rs', (∀ s, s < 60 → rs' s = -5) → post (fc, fn, tp, tf, ts, pc, pd, ac, ad, ap, jl, jd, lr, rs')) :
    ∀ e k, k + e = 60 → ∀ rs, (∀ s, s < k → rs s = -5) → wX_forgetLastRun_37 post fc fn (e + 1) (nI k) tp tf ts pc pd ac ad ap jl jd lr rs := by
  intro e
  induction e with
  | zero =>
    intro k hk rs hr
    have hk' : k = 60 := by omega
    subst hk'
    exact pk_le 60 60 (fun _ => H rs hr) (fun h => absurd h (by omega))
  | succ e ih =>
    intro k hk rs hr
    have hc : (nI k).toNatClampNeg = k := nI_clamp (by omega)
    refine pk_le 60 k (fun h => absurd h (by omega)) (fun _ => ⟨vp_in_nI (by omega) (by omega), fun rs' er => nm_r (nI_1 k) (ih (k + 1) (by omega) rs' ?_)⟩)
    rw [hc] at er
    subst er
    refine lt_s (fun s hs => ?_) pk_us
    rw [pk_un (by omega)]; exact hr s hs
theorem rx_forget_a {post : SX → Prop}
    (H : ∀ jl' jd' lr' rs', (∀ i, i < 13 → jl' i = 0 ∧ lr' i = 0) → (∀ s, s < 60 → rs' s = -5) → post (fc, fn, tp, tf, ts, pc, pd, ac, ad, ap, jl', jd', lr', rs')) :
    ∀ e k, k + e = 13 → ∀ jl jd lr, (∀ i, i < k → jl i = 0 ∧ lr i = 0) → wX_forgetLastRun_2 post fc fn (e + 1) (nI k) tp tf ts pc pd ac ad ap jl jd lr rs := by
  intro e
  induction e with
  | zero =>
    intro k hk jl jd lr hr
    have hk' : k = 13 := by omega
    subst hk'
    refine pk_le 13 13 (fun _ => ?_) (fun h => absurd h (by omega))
    exact ⟨61, rx_forget_b (fun rs' h => H jl jd lr rs' hr h) 60 0 rfl rs (fun s hs => absurd hs (Nat.not_lt_zero s))⟩
  | succ e ih =>
    intro k hk jl jd lr hr
    have hc : (nI k).toNatClampNeg = k := nI_clamp (by omega)
    have hin : vp_in (nI k) 13 := vp_in_nI (by omega) (by omega)
    refine pk_le 13 k (fun h => absurd h (by omega)) (fun _ => ⟨hin, fun jl' e1 => ⟨hin, fun jd' e2 => ⟨hin, fun lr' e3 => nm_r (nI_1 k) (ih (k + 1) (by omega) jl' jd' lr' ?_)⟩⟩⟩)
    rw [hc] at e1 e3
    subst e1 e3
    refine lt_s (fun s hs => ?_) ⟨pk_us, pk_us⟩
    rw [pk_un (by omega), pk_un (by omega)]; exact hr s hs
theorem rx_run {post : Int32 → SX → Prop} (V : ed_V c d p) (T : ru_T ac ad ap c d p)
    (h1 : ed_ok c d p 61 → ∀ jl' jd' lr' rs', (∀ i, i < 13 → lr' i = nI (ed_RR c d p 60 i)) → (∀ s, s < 60 → rs' s = ru_e (ed_B c d p s)) →
      post 1 (fc, fn, tp, tf, ts, pc, pd, ac, ad, ap, jl', jd', lr', rs'))
    (h0 : ¬ ed_ok c d p 61 → ∀ jl' jd' lr' rs', post 0 (fc, fn, tp, tf, ts, pc, pd, ac, ad, ap, jl', jd', lr', rs')) :
    wpX_runWithoutMiss post (fc, fn, tp, tf, ts, pc, pd, ac, ad, ap, jl, jd, lr, rs) := by
  refine ⟨14, rx_forget_a (fun jl' jd' lr' rs' hj hs => ?_) 13 0 rfl jl jd lr (fun i hi => absurd hi (Nat.not_lt_zero i))⟩
  refine ⟨61, rx_run_l V T h1 h0 60 0 rfl _ _ _ _ (fun i hi => ⟨(hj i hi).1, Nat.zero_le _, fun h => absurd h (Nat.lt_irrefl 0)⟩) (fun i hi => (hj i hi).2)
    ⟨fun s hs => absurd hs (Nat.not_lt_zero s), fun s _ hs2 => hs s hs2⟩ (fun s hs => absurd hs (Nat.not_lt_zero s))⟩
theorem rx_take_l {post : SX → Prop} {k : Nat} (hk : k < 3)
    (H : ∀ ac' ad' ap', (∀ i, i < 13 → ac' i = pc (k * 13 + i) ∧ ad' i = pd (k * 13 + i) ∧ ap' i = tp i) →
      post (fc, fn, tp, tf, ts, pc, pd, ac', ad', ap', jl, jd, lr, rs)) :
    ∀ e i, i + e = 13 → ∀ ac ad ap, (∀ a, a < i → ac a = pc (k * 13 + a) ∧ ad a = pd (k * 13 + a) ∧ ap a = tp a) →
      wX_takeUnderTest_2 post (nI k) fc fn (e + 1) (nI i) tp tf ts pc pd ac ad ap jl jd lr rs := by
  intro e
  induction e with
  | zero =>
    intro i hi ac ad ap h
    have hi' : i = 13 := by omega
    subst hi'
    exact pk_le 13 13 (fun _ => H ac ad ap h) (fun h => absurd h (by omega))
  | succ e ih =>
    intro i hi ac ad ap h
    have hc : (nI i).toNatClampNeg = i := nI_clamp (by omega)
    have hin : vp_in (nI i) 13 := vp_in_nI (by omega) (by omega)
    have hx : nI k * 13 + nI i = nI (k * 13 + i) := by rw [show (13 : Int32) = nI 13 from rfl, pk_mul, nI_add]
    have hix : vp_in (nI k * 13 + nI i) 39 := pk_in (k * 13 + i) 39 (by omega) hx
    have hcx : (nI k * 13 + nI i).toNatClampNeg = k * 13 + i := pk_cl (k * 13 + i) hx
    refine pk_le 13 i (fun h => absurd h (by omega)) (fun _ => ⟨hix, hin, fun a1 e1 => ⟨hix, hin, fun a2 e2 => ⟨hin, hin, fun a3 e3 => nm_r (nI_1 i) (ih (i + 1) (by omega) a1 a2 a3 ?_)⟩⟩⟩)
    rw [hc, hcx] at e1 e2
    rw [hc] at e3
    subst e1 e2 e3
    refine lt_s (fun s hs => ?_) ⟨pk_us, pk_us, pk_us⟩
    rw [pk_un (by omega), pk_un (by omega), pk_un (by omega)]; exact h s hs
theorem rx_take {post : SX → Prop} {k : Nat} (hk : k < 3)
    (H : ∀ ac' ad' ap', (∀ i, i < 13 → ac' i = pc (k * 13 + i) ∧ ad' i = pd (k * 13 + i) ∧ ap' i = tp i) →
      post (fc, fn, tp, tf, ts, pc, pd, ac', ad', ap', jl, jd, lr, rs)) :
    wpX_takeUnderTest post (fc, fn, tp, tf, ts, pc, pd, ac, ad, ap, jl, jd, lr, rs) (nI k) :=
  ⟨14, rx_take_l hk H 13 0 rfl ac ad ap (fun a ha => absurd ha (Nat.not_lt_zero a))⟩
end
