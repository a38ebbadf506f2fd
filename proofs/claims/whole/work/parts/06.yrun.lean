/-! the walks of the run, the second program -/
def ry_e : Option Nat → Int32
  | none => -1
  | some b => nI b
section
variable {g : Int32} {yP yC yD yF yO yS wc wd wp wl wu wn wr : Nat → Int32} {c d p L D : Nat → Nat}
theorem ry_rel_l {post : Int32 → SY → Prop} (V : ed_V c d p) (T : ru_T wc wd wp c d p) {t : Nat} (ht : t < 60)
    (h0 : ∀ i, i < 13 → 0 < L i → t % p i = 0 → ∀ wl' wu', post 0 (g, yP, yC, yD, yF, yO, yS, wc, wd, wp, wl', wu', wn, wr))
    (h1 : (∀ i, i < 13 → (0 < c i ∧ 0 < p i ∧ t % p i = 0) → L i = 0) → ∀ wl' wu', ru_J wl' wu' (ed_L1 c p L t) (ed_D1 c d p D t) →
      post 1 (g, yP, yC, yD, yF, yO, yS, wc, wd, wp, wl', wu', wn, wr)) :
    ∀ e k, k + e = 13 → ∀ wl wu, ru_J wl wu (ru_mx k (ed_L1 c p L t) L) (ru_mx k (ed_D1 c d p D t) D) →
      (∀ i, i < k → (0 < c i ∧ 0 < p i ∧ t % p i = 0) → L i = 0) →
      wY_release_2 post (nI t) g (e + 1) (nI k) yP yC yD yF yO yS wc wd wp wl wu wn wr := by
  intro e
  induction e with
  | zero =>
    intro k hk wl wu J hz
    have hk' : k = 13 := by omega
    subst hk'
    exact pk_le 13 13 (fun _ => h1 hz wl wu (ru_J_13 J)) (fun h => absurd h (by omega))
  | succ e ih =>
    intro k hk wl wu J hz
    have hc : (nI k).toNatClampNeg = k := nI_clamp (by omega)
    have hin : vp_in (nI k) 13 := vp_in_nI (by omega) (by omega)
    have hk13 : k < 13 := by omega
    have eT : wc (nI k).toNatClampNeg = nI (c k) := by rw [hc]; exact (T k hk13).1
    have bc : c k ≤ 60 := ru_cb V hk13
    have keep : ¬ (0 < c k ∧ 0 < p k ∧ t % p k = 0) → ru_J wl wu (ru_mx (k + 1) (ed_L1 c p L t) L) (ru_mx (k + 1) (ed_D1 c d p D t) D) := by
      intro z
      rw [ru_mx_keep (ru_L1_n z), ru_mx_keep (ru_D1_n z)]; exact J
    refine pk_le 13 k (fun h => absurd h (by omega)) (fun _ => ⟨hin, pk_le (c k) 0 (fun h => ?_) (fun h => ?_) eT⟩)
    · exact nm_r (nI_1 k) (ih (k + 1) (by omega) wl wu (keep (fun z => by omega)) (lt_s hz (fun z => by omega)))
    · obtain ⟨v1, v2, v3, v4⟩ := V k hk13 h
      obtain ⟨g1, g2⟩ := (T k hk13).2 h
      have eP : wp (nI k).toNatClampNeg = nI (p k) := by rw [hc]; exact g2
      refine ⟨hin, pk_le (p k) 0 (fun h => absurd h (by omega)) (fun hp => ⟨hin, ?_, ?_⟩) eP⟩
      · rw [eP]; exact nI_ne0 hp (by omega)
      · have eR : nI t - nI t / wp (nI k).toNatClampNeg * wp (nI k).toNatClampNeg = nI (t % p k) := by
          rw [eP]; exact pk_rem (by omega) hp (by omega)
        have bm : t % p k ≤ t := Nat.mod_le _ _
        have jk := J k hk13
        rw [ru_mx_hi (Nat.le_refl k)] at jk
        have eL : wl (nI k).toNatClampNeg = nI (L k) := by rw [hc]; exact jk.1
        have bL := jk.2.1
        refine pk_eq (t % p k) 0 (fun hm => ⟨hin, pk_le (L k) 0 (fun hl => ⟨hin, hin, fun jl' el => ⟨hin, hin, fun jd' eu => ?_⟩⟩) (fun hl => ?_) eL⟩) (fun hm => ?_) eR
        · rw [eT, hc] at el
          rw [hc, g1, nI_add] at eu
          subst el eu
          refine nm_r (nI_1 k) (ih (k + 1) (by omega) _ _ ?_ (lt_s hz (fun _ => by omega)))
          have J' := ru_J_up J (k := k) (x := c k) (y := t + d k) bc (by omega)
          rw [ru_mx_put, ru_mx_put, ru_L1_y h hp hm, ru_D1_y h hp hm]
          exact J'
        · exact h0 k hk13 hl hm wl wu
        · exact nm_r (nI_1 k) (ih (k + 1) (by omega) wl wu (keep (fun z => hm z.2.2)) (lt_s hz (fun z => absurd z.2.2 hm)))
theorem ry_rel {post : Int32 → SY → Prop} (V : ed_V c d p) (T : ru_T wc wd wp c d p) (J : ru_J wl wu L D) {t : Nat} (ht : t < 60)
    (h0 : ∀ i, i < 13 → 0 < L i → t % p i = 0 → ∀ wl' wu', post 0 (g, yP, yC, yD, yF, yO, yS, wc, wd, wp, wl', wu', wn, wr))
    (h1 : (∀ i, i < 13 → (0 < c i ∧ 0 < p i ∧ t % p i = 0) → L i = 0) → ∀ wl' wu', ru_J wl' wu' (ed_L1 c p L t) (ed_D1 c d p D t) →
      post 1 (g, yP, yC, yD, yF, yO, yS, wc, wd, wp, wl', wu', wn, wr)) :
    wpY_release post (g, yP, yC, yD, yF, yO, yS, wc, wd, wp, wl, wu, wn, wr) (nI t) :=
  ⟨14, ry_rel_l (L := L) (D := D) V T ht h0 h1 13 0 rfl wl wu (by rw [ru_mx_0, ru_mx_0]; exact J) (fun i hi => absurd hi (Nat.not_lt_zero i))⟩
theorem ry_neg : ry_e none < 0 := by decide
theorem ry_77 {post : Int32 → SY → Prop} {J30 : Int32 → Int32 → (Nat → Int32) → (Nat → Int32) → (Nat → Int32) → (Nat → Int32) → (Nat → Int32) → (Nat → Int32) → (Nat → Int32) → (Nat → Int32) → (Nat → Int32) → (Nat → Int32) → (Nat → Int32) → (Nat → Int32) → (Nat → Int32) → Prop}
    {J50 : Int32 → Int32 → Prop} {x1 : Int32} (J : ru_J wl wu L D) {k : Nat} (hk13 : k < 13) (nx : J50 (ry_e (ed_pk L D (k + 1))) (nI (k + 1))) :
    wY_runs_77 post J30 J50 x1 (ry_e (ed_pk L D k)) (nI k) g yP yC yD yF yO yS wc wd wp wl wu wn wr := by
  have hc : (nI k).toNatClampNeg = k := nI_clamp (by omega)
  have hin : vp_in (nI k) 13 := vp_in_nI (by omega) (by omega)
  obtain ⟨j1, j2, j3⟩ := J k hk13
  have eL : wl (nI k).toNatClampNeg = nI (L k) := by rw [hc]; exact j1
  cases hb : ed_pk L D k with
  | none =>
    refine ⟨hin, pk_le (L k) 0 (fun h => ?_) (fun h => ?_) eL⟩
    · have e1 : ed_pk L D (k + 1) = none := by simp only [ed_pk, hb]; exact if_neg (by omega)
      rw [e1] at nx
      exact nm_r (nI_1 k) nx
    · have e1 : ed_pk L D (k + 1) = some k := by simp only [ed_pk, hb]; exact if_pos h
      rw [e1] at nx
      exact br_t ry_neg (nm_r (nI_1 k) nx)
  | some b =>
    obtain ⟨b1, b2, b3, b4⟩ := ed_pk_some hb
    have hcb : (nI b).toNatClampNeg = b := nI_clamp (by omega)
    have hinb : vp_in (nI b) 13 := vp_in_nI (by omega) (by omega)
    have hne : ¬ ry_e (some b) < 0 := nI_pos (by omega)
    obtain ⟨a1, a2, a3⟩ := J b (by omega)
    obtain ⟨a4, a5⟩ := a3 b2
    refine ⟨hin, pk_le (L k) 0 (fun h => ?_) (fun h => br_f hne ⟨hin, hinb, ?_⟩) eL⟩
    · have e1 : ed_pk L D (k + 1) = some b := by simp only [ed_pk, hb]; exact if_neg (by omega)
      rw [e1] at nx
      exact nm_r (nI_1 k) nx
    · obtain ⟨g1, g2⟩ := j3 h
      have eD : wu (nI k).toNatClampNeg = nI (D k) := by rw [hc]; exact g1
      have eB : wu (ry_e (some b)).toNatClampNeg = nI (D b) := by show wu (nI b).toNatClampNeg = _; rw [hcb]; exact a4
      refine pk_le (D b) (D k) (fun g => ?_) (fun g => ?_) eB eD
      · have e1 : ed_pk L D (k + 1) = some b := by simp only [ed_pk, hb]; exact if_neg (by omega)
        rw [e1] at nx
        exact nm_r (nI_1 k) nx
      · have e1 : ed_pk L D (k + 1) = some k := by simp only [ed_pk, hb]; exact if_pos ⟨h, g⟩
        rw [e1] at nx
        exact nm_r (nI_1 k) nx
theorem ry_scan_l {post : Int32 → SY → Prop} {J30 : Int32 → Int32 → (Nat → Int32) → (Nat → Int32) → (Nat → Int32) → (Nat → Int32) → (Nat → Int32) → (Nat → Int32) → (Nat → Int32) → (Nat → Int32) → (Nat → Int32) → (Nat → Int32) → (Nat → Int32) → (Nat → Int32) → (Nat → Int32) → Prop}
    (J : ru_J wl wu L D) {t : Nat} (ht : t ≤ 60)
    (h0 : ∀ i, i < 13 → 0 < L i → D i ≤ t → post 0 (g, yP, yC, yD, yF, yO, yS, wc, wd, wp, wl, wu, wn, wr))
    (h1 : (∀ i, i < 13 → ¬ (0 < L i ∧ D i ≤ t)) →
      wY_runs_128 post J30 (nI t) (ry_e (ed_pk L D 13)) (ru_e (ed_pk L D 13)) (nI t) g yP yC yD yF yO yS wc wd wp wl wu wn wr) :
    ∀ e k, k + e = 13 → (∀ i, i < k → ¬ (0 < L i ∧ D i ≤ t)) →
      wY_runs_50 post J30 (nI t) g yP yC yD yF yO yS wc wd wp wl wu wn wr (e + 1) (ry_e (ed_pk L D k)) (nI k) := by
  intro e
  induction e with
  | zero =>
    intro k hk hn
    have hk' : k = 13 := by omega
    subst hk'
    have h := h1 hn
    refine pk_le 13 13 (fun _ => ?_) (fun h => absurd h (by omega))
    cases hb : ed_pk L D 13 with
    | none =>
      rw [hb] at h
      exact br_f (by decide) h
    | some b =>
      rw [hb] at h
      have hb13 := (ed_pk_some hb).1
      exact br_t (nI_pos' (by omega)) h
  | succ e ih =>
    intro k hk hn
    have hc : (nI k).toNatClampNeg = k := nI_clamp (by omega)
    have hin : vp_in (nI k) 13 := vp_in_nI (by omega) (by omega)
    have hk13 : k < 13 := by omega
    obtain ⟨j1, j2, j3⟩ := J k hk13
    have eL : wl (nI k).toNatClampNeg = nI (L k) := by rw [hc]; exact j1
    refine pk_le 13 k (fun h => absurd h (by omega)) (fun _ => ⟨hin, pk_le (L k) 0 (fun h => ?_) (fun h => ?_) eL⟩)
    · exact ry_77 J hk13 (ih (k + 1) (by omega) (lt_s hn (fun z => by omega)))
    · obtain ⟨g1, g2⟩ := j3 h
      have eD : wu (nI k).toNatClampNeg = nI (D k) := by rw [hc]; exact g1
      refine ⟨hin, pk_lt t (D k) (fun g => ?_) (fun g => ?_) rfl eD⟩
      · exact ry_77 J hk13 (ih (k + 1) (by omega) (lt_s hn (fun z => by omega)))
      · exact h0 k hk13 h g
theorem ry_job {post : Int32 → SY → Prop} {J30 : Int32 → Int32 → (Nat → Int32) → (Nat → Int32) → (Nat → Int32) → (Nat → Int32) → (Nat → Int32) → (Nat → Int32) → (Nat → Int32) → (Nat → Int32) → (Nat → Int32) → (Nat → Int32) → (Nat → Int32) → (Nat → Int32) → (Nat → Int32) → Prop}
    (V : ed_V c d p) (T : ru_T wc wd wp c d p) {t : Nat} (ht : t < 60)
    (J : ru_J wl wu (ed_LA c d p t) (ed_DA c d p t)) (R : ∀ i, i < 13 → wr i = nI (ed_RR c d p t i)) (S : ∀ s, s < t → wn s = ru_e (ed_B c d p s))
    (H : ∀ wl' wn' wr', ru_J wl' wu (ed_LL c d p (t + 1)) (ed_DD c d p (t + 1)) → (∀ i, i < 13 → wr' i = nI (ed_RR c d p (t + 1) i)) →
      (∀ s, s < t + 1 → wn' s = ru_e (ed_B c d p s)) → J30 (nI (t + 1)) g yP yC yD yF yO yS wc wd wp wl' wu wn' wr') :
    wY_runs_128 post J30 (nI t) (ry_e (ed_B c d p t)) (ru_e (ed_B c d p t)) (nI t) g yP yC yD yF yO yS wc wd wp wl wu wn wr := by
  have hct : (nI t).toNatClampNeg = t := nI_clamp (by omega)
  refine ⟨vp_in_nI ht (by omega), fun wn' en => ?_⟩
  rw [hct] at en
  subst en
  have S' : ∀ s, s < t + 1 → upd wn t (ru_e (ed_B c d p t)) s = ru_e (ed_B c d p s) := ru_S_put S rfl
  cases hB : ed_B c d p t with
  | none =>
    rw [hB] at S'
    refine br_t ry_neg (nm_r (nI_1 t) (H _ _ _ ?_ ?_ S'))
    · rw [ed_LL_s, ed_DD_s, hB]; exact J
    · rw [ed_RR_s, hB, ru_R_idle]; exact R
  | some b =>
    rw [hB] at S'
    obtain ⟨b1, b2, b3, b4⟩ := ed_pk_some hB
    have hcb : (ry_e (some b)).toNatClampNeg = b := nI_clamp (by omega)
    have hinb : vp_in (ry_e (some b)) 13 := vp_in_nI (by omega) (by omega)
    have hne : ¬ ry_e (some b) < 0 := nI_pos (by omega)
    obtain ⟨j1, j2, j3⟩ := J b b1
    obtain ⟨j4, j5⟩ := j3 b2
    obtain ⟨r1, r2⟩ := ru_rel b2
    have hcp : 0 < c b := by have := (ed_invB c d p t b b2).1; omega
    have hd : wd b = nI (d b) := ((T b b1).2 hcp).1
    have hR := ed_RR_le c d p t b
    refine br_f hne ⟨hinb, hinb, fun wl' el => ⟨hinb, hinb, nm_r (e' := nI (t + 1 - (ed_DA c d p t b - d b))) ?_ ⟨hinb, ?_⟩⟩⟩
    · rw [hcb, j4, hd, pk_sub r1, nI_1, pk_sub (by omega)]
    · rw [hcb, j1, show (1 : Int32) = nI 1 from rfl, pk_sub (by omega)] at el
      subst el
      have J' : ru_J (upd wl b (nI (ed_LA c d p t b - 1))) wu (ed_LL c d p (t + 1)) (ed_DD c d p (t + 1)) := by
        rw [ed_LL_s, ed_DD_s, hB]; exact ru_J_run J b1 b2
      refine pk_eq (ed_LA c d p t b - 1) 0 (fun h => ⟨hinb, ?_⟩) (fun h => ?_) (by rw [hcb, pk_us])
      · refine pk_le (t + 1 - (ed_DA c d p t b - d b)) (ed_RR c d p t b) (fun g => nm_r (nI_1 t) ?_) (fun g => ⟨hinb, fun wr' er => nm_r (nI_1 t) ?_⟩) rfl (by rw [hcb]; exact R b b1)
        · refine H _ _ _ J' ?_ S'
          rw [ed_RR_s, hB]
          exact ru_R_run R (fun z => by omega)
        · rw [hcb] at er
          subst er
          refine H _ _ _ J' ?_ S'
          rw [ed_RR_s, hB]
          exact ru_R_put R ⟨by omega, g⟩
      · refine nm_r (nI_1 t) (H _ _ _ J' ?_ S')
        rw [ed_RR_s, hB]
        exact ru_R_run R (fun z => by omega)
theorem ry_end_l {post : Int32 → SY → Prop} (J : ru_J wl wu L D)
    (h0 : ∀ i, i < 13 → 0 < L i → post 0 (g, yP, yC, yD, yF, yO, yS, wc, wd, wp, wl, wu, wn, wr))
    (h1 : (∀ i, i < 13 → L i = 0) → post 1 (g, yP, yC, yD, yF, yO, yS, wc, wd, wp, wl, wu, wn, wr)) :
    ∀ e k, k + e = 13 → (∀ i, i < k → L i = 0) → wY_runs_199 post g yP yC yD yF yO yS wc wd wp wl wu wn wr (e + 1) (nI k) := by
  intro e
  induction e with
  | zero =>
    intro k hk hn
    have hk' : k = 13 := by omega
    subst hk'
    exact pk_le 13 13 (fun _ => h1 hn) (fun h => absurd h (by omega))
  | succ e ih =>
    intro k hk hn
    have hc : (nI k).toNatClampNeg = k := nI_clamp (by omega)
    have hin : vp_in (nI k) 13 := vp_in_nI (by omega) (by omega)
    have hk13 : k < 13 := by omega
    obtain ⟨j1, j2, j3⟩ := J k hk13
    have eL : wl (nI k).toNatClampNeg = nI (L k) := by rw [hc]; exact j1
    refine pk_le 13 k (fun h => absurd h (by omega)) (fun _ => ⟨hin, pk_le (L k) 0 (fun h => ?_) (fun h => ?_) eL⟩)
    · exact nm_r (nI_1 k) (ih (k + 1) (by omega) (lt_s hn (by omega)))
    · exact h0 k hk13 h
theorem ry_run_l {post : Int32 → SY → Prop} (V : ed_V c d p) (T : ru_T wc wd wp c d p)
    (h1 : ed_ok c d p 61 → ∀ wl' wu' wn' wr', (∀ i, i < 13 → wr' i = nI (ed_RR c d p 60 i)) → (∀ s, s < 60 → wn' s = ru_e (ed_B c d p s)) →
      post 1 (g, yP, yC, yD, yF, yO, yS, wc, wd, wp, wl', wu', wn', wr'))
    (h0 : ¬ ed_ok c d p 61 → ∀ wl' wu' wn' wr', post 0 (g, yP, yC, yD, yF, yO, yS, wc, wd, wp, wl', wu', wn', wr')) :
    ∀ e t, t + e = 60 → ∀ wl wu wn wr, ru_J wl wu (ed_LL c d p t) (ed_DD c d p t) → (∀ i, i < 13 → wr i = nI (ed_RR c d p t i)) →
      (∀ s, s < t → wn s = ru_e (ed_B c d p s)) → ed_ok c d p t →
      wY_runs_30 post (e + 1) (nI t) g yP yC yD yF yO yS wc wd wp wl wu wn wr := by
  intro e
  induction e with
  | zero =>
    intro t ht wl wu wn wr J R S ok
    have ht' : t = 60 := by omega
    subst ht'
    refine pk_le 60 60 (fun _ => ⟨14, ry_end_l J (fun i hi hl => ?_) (fun hn => ?_) 13 0 rfl (fun i hi => absurd hi (Nat.not_lt_zero i))⟩) (fun h => absurd h (by omega))
    · exact h0 (fun z => z 60 (by omega) ⟨i, hi, hl, ed_due60 V hi hl⟩) _ _ _ _
    · refine h1 (lt_s ok (fun ⟨i, hi, hl, _⟩ => ?_)) _ _ _ _ R S
      have := hn i hi
      omega
  | succ e ih =>
    intro t ht wl wu wn wr J R S ok
    refine pk_le 60 t (fun h => absurd h (by omega)) (fun _ => ry_rel V T J (by omega) (fun i hi hl hm wl' wu' => ?_) (fun hz wl' wu' J' => ?_))
    · exact br_t rfl (h0 (fun z => z t (by omega) ⟨i, hi, hl, ed_due V hi hl hm⟩) _ _ _ _)
    · refine br_f (by decide) ⟨14, ry_scan_l J' (t := t) (by omega) (fun i hi hl hd => ?_) (fun hn => ?_) 13 0 rfl (fun i hi => absurd hi (Nat.not_lt_zero i))⟩
      · obtain ⟨o1, o2⟩ := ed_old V hi hl hd
        exact h0 (fun z => z t (by omega) ⟨i, hi, o1, o2⟩) _ _ _ _
      · have ok' : ed_ok c d p (t + 1) := by
          refine lt_s ok (fun ⟨i, hi, hl, hd⟩ => ?_)
          by_cases z : 0 < c i ∧ 0 < p i ∧ t % p i = 0
          · have := hz i hi z
            omega
          · exact hn i hi ⟨by rw [ru_L1_n z]; exact hl, by rw [ru_D1_n z]; exact hd⟩
        exact ry_job V T (by omega) J' R S (fun wl2 wn2 wr2 J2 R2 S2 => ih (t + 1) (by omega) _ _ _ _ J2 R2 S2 ok')
theorem ry_run_a {post : Int32 → SY → Prop} (V : ed_V c d p) (T : ru_T wc wd wp c d p)
    (h1 : ed_ok c d p 61 → ∀ wl' wu' wn' wr', (∀ i, i < 13 → wr' i = nI (ed_RR c d p 60 i)) → (∀ s, s < 60 → wn' s = ru_e (ed_B c d p s)) →
      post 1 (g, yP, yC, yD, yF, yO, yS, wc, wd, wp, wl', wu', wn', wr'))
    (h0 : ¬ ed_ok c d p 61 → ∀ wl' wu' wn' wr', post 0 (g, yP, yC, yD, yF, yO, yS, wc, wd, wp, wl', wu', wn', wr')) :
    ∀ e k, k + e = 13 → ∀ wl wr, (∀ i, i < k → wl i = 0 ∧ wr i = 0) → wY_runs_2 post g (e + 1) (nI k) yP yC yD yF yO yS wc wd wp wl wu wn wr := by
  intro e
  induction e with
  | zero =>
    intro k hk wl wr hr
    have hk' : k = 13 := by omega
    subst hk'
    refine pk_le 13 13 (fun _ => ?_) (fun h => absurd h (by omega))
    exact ⟨61, ry_run_l V T h1 h0 60 0 rfl _ _ _ _ (fun i hi => ⟨(hr i hi).1, Nat.zero_le _, fun h => absurd h (Nat.lt_irrefl 0)⟩) (fun i hi => (hr i hi).2)
      (fun s hs => absurd hs (Nat.not_lt_zero s)) (fun s hs => absurd hs (Nat.not_lt_zero s))⟩
  | succ e ih =>
    intro k hk wl wr hr
    have hc : (nI k).toNatClampNeg = k := nI_clamp (by omega)
    have hin : vp_in (nI k) 13 := vp_in_nI (by omega) (by omega)
    refine pk_le 13 k (fun h => absurd h (by omega)) (fun _ => ⟨hin, fun wl' e1 => ⟨hin, fun wr' e3 => nm_r (nI_1 k) (ih (k + 1) (by omega) wl' wr' ?_)⟩⟩)
    rw [hc] at e1 e3
    subst e1 e3
    refine lt_s (fun s hs => ?_) ⟨pk_us, pk_us⟩
    rw [pk_un (by omega), pk_un (by omega)]; exact hr s hs
theorem ry_run {post : Int32 → SY → Prop} (V : ed_V c d p) (T : ru_T wc wd wp c d p)
    (h1 : ed_ok c d p 61 → ∀ wl' wu' wn' wr', (∀ i, i < 13 → wr' i = nI (ed_RR c d p 60 i)) → (∀ s, s < 60 → wn' s = ru_e (ed_B c d p s)) →
      post 1 (g, yP, yC, yD, yF, yO, yS, wc, wd, wp, wl', wu', wn', wr'))
    (h0 : ¬ ed_ok c d p 61 → ∀ wl' wu' wn' wr', post 0 (g, yP, yC, yD, yF, yO, yS, wc, wd, wp, wl', wu', wn', wr')) :
    wpY_runs post (g, yP, yC, yD, yF, yO, yS, wc, wd, wp, wl, wu, wn, wr) :=
  ⟨14, ry_run_a V T h1 h0 13 0 rfl wl wr (fun i hi => absurd hi (Nat.not_lt_zero i))⟩
end
