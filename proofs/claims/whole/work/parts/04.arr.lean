/-! a core under test on arrays; jobs on arrays -/
def ru_T (ac ad ap : Nat → Int32) (c d p : Nat → Nat) : Prop :=
  ∀ i, i < 13 → ac i = nI (c i) ∧ (0 < c i → ad i = nI (d i) ∧ ap i = nI (p i))
def ru_J (jl jd : Nat → Int32) (L D : Nat → Nat) : Prop :=
  ∀ i, i < 13 → jl i = nI (L i) ∧ L i ≤ 60 ∧ (0 < L i → jd i = nI (D i) ∧ D i ≤ 120)
def ru_e : Option Nat → Int32
  | none => -5
  | some b => nI b
def ru_mx (k : Nat) (f g : Nat → Nat) : Nat → Nat := fun i => if i < k then f i else g i
theorem ru_mx_lo {k : Nat} {f g : Nat → Nat} {i : Nat} (h : i < k) : ru_mx k f g i = f i := if_pos h
theorem ru_mx_hi {k : Nat} {f g : Nat → Nat} {i : Nat} (h : k ≤ i) : ru_mx k f g i = g i := if_neg (by omega)
theorem ru_mx_keep {k : Nat} {f g : Nat → Nat} (h : f k = g k) : ru_mx (k + 1) f g = ru_mx k f g := by
  funext i
  rcases Nat.lt_trichotomy i k with z | z | z
  · rw [ru_mx_lo (by omega), ru_mx_lo z]
  · subst z; rw [ru_mx_lo (by omega), ru_mx_hi (Nat.le_refl _)]; exact h
  · rw [ru_mx_hi (by omega), ru_mx_hi (by omega)]
theorem ru_mx_put {k : Nat} {f g : Nat → Nat} : ru_mx (k + 1) f g = ed_up (ru_mx k f g) k (f k) := by
  funext i
  rcases Nat.lt_trichotomy i k with z | z | z
  · rw [ed_up_n (by omega), ru_mx_lo (by omega), ru_mx_lo z]
  · subst z; rw [ed_up_s, ru_mx_lo (by omega)]
  · rw [ed_up_n (by omega), ru_mx_hi (by omega), ru_mx_hi (by omega)]
theorem ru_mx_0 {f g : Nat → Nat} : ru_mx 0 f g = g := by
  funext i; exact ru_mx_hi (Nat.zero_le _)
theorem ru_J_13 {jl jd : Nat → Int32} {L L' D D' : Nat → Nat} (J : ru_J jl jd (ru_mx 13 L' L) (ru_mx 13 D' D)) : ru_J jl jd L' D' := by
  intro i hi
  have := J i hi
  rw [ru_mx_lo hi, ru_mx_lo hi] at this
  exact this
theorem ru_J_up {jl jd : Nat → Int32} {L D : Nat → Nat} (J : ru_J jl jd L D) {k x y : Nat} (hx : x ≤ 60) (hy : y ≤ 120) :
    ru_J (upd jl k (nI x)) (upd jd k (nI y)) (ed_up L k x) (ed_up D k y) := by
  intro i hi
  by_cases z : i = k
  · subst z
    rw [pk_us, pk_us, ed_up_s, ed_up_s]
    exact ⟨rfl, hx, fun _ => ⟨rfl, hy⟩⟩
  · rw [pk_un z, pk_un z, ed_up_n z, ed_up_n z]
    exact J i hi
theorem ru_T_up {ac ad ap : Nat → Int32} {c d p : Nat → Nat} (T : ru_T ac ad ap c d p) (k x y q : Nat) :
    ru_T (upd ac k (nI x)) (upd ad k (nI y)) (upd ap k (nI q)) (ed_up c k x) (ed_up d k y) (ed_up p k q) := by
  intro i hi
  by_cases z : i = k
  · subst z
    rw [pk_us, pk_us, pk_us, ed_up_s, ed_up_s, ed_up_s]
    exact ⟨rfl, fun _ => ⟨rfl, rfl⟩⟩
  · rw [pk_un z, pk_un z, pk_un z, ed_up_n z, ed_up_n z, ed_up_n z]
    exact T i hi
theorem ru_cb {c d p : Nat → Nat} (V : ed_V c d p) {k : Nat} (hk : k < 13) : c k ≤ 60 := by
  rcases Nat.eq_zero_or_pos (c k) with z | z
  · omega
  · have := V k hk z; omega
theorem ru_LL_b {c d p : Nat → Nat} (V : ed_V c d p) {t i : Nat} (hi : i < 13) (ht : t ≤ 60) :
    ed_LL c d p t i ≤ 60 ∧ (0 < ed_LL c d p t i → ed_DD c d p t i ≤ 120) := by
  rcases Nat.eq_zero_or_pos (ed_LL c d p t i) with z | z
  · exact ⟨by omega, fun h => by omega⟩
  · obtain ⟨h1, h2, r, h3, h4, h5, h6⟩ := ed_inv c d p t i z
    have := V i hi (by omega)
    exact ⟨by omega, fun _ => by omega⟩
theorem ru_L1_y {c p L : Nat → Nat} {t i : Nat} (h1 : 0 < c i) (h2 : 0 < p i) (h3 : t % p i = 0) : ed_L1 c p L t i = c i := if_pos ⟨h1, h2, h3⟩
theorem ru_D1_y {c d p D : Nat → Nat} {t i : Nat} (h1 : 0 < c i) (h2 : 0 < p i) (h3 : t % p i = 0) : ed_D1 c d p D t i = t + d i := if_pos ⟨h1, h2, h3⟩
theorem ru_L1_n {c p L : Nat → Nat} {t i : Nat} (h : ¬ (0 < c i ∧ 0 < p i ∧ t % p i = 0)) : ed_L1 c p L t i = L i := if_neg h
theorem ru_D1_n {c d p D : Nat → Nat} {t i : Nat} (h : ¬ (0 < c i ∧ 0 < p i ∧ t % p i = 0)) : ed_D1 c d p D t i = D i := if_neg h
/-! one slot: the picked job on arrays -/
theorem ru_J_run {jl jd : Nat → Int32} {L D : Nat → Nat} (J : ru_J jl jd L D) {b : Nat} (hb : b < 13) (hL : 0 < L b) :
    ru_J (upd jl b (nI (L b - 1))) jd (ed_L2 L (some b)) D := by
  intro i hi
  obtain ⟨j1, j2, j3⟩ := J i hi
  unfold ed_L2
  by_cases z : i = b
  · subst z
    rw [if_pos rfl, pk_us]
    exact ⟨rfl, by omega, fun _ => j3 hL⟩
  · have hn : ¬ (some b = some i) := fun e => z (Option.some.inj e).symm
    rw [if_neg hn, pk_un z]
    exact ⟨j1, j2, j3⟩
theorem ru_J_idle {jl jd : Nat → Int32} {L D : Nat → Nat} (J : ru_J jl jd L D) : ru_J jl jd (ed_L2 L none) D := J
theorem ru_R_idle {d L D R : Nat → Nat} {t : Nat} : ed_R2 d L D R t none = R := by
  funext i
  exact if_neg (fun h => by cases h.1)
theorem ru_R_run {lr : Nat → Int32} {d L D R : Nat → Nat} {t b : Nat} (H : ∀ i, i < 13 → lr i = nI (R i))
    (hn : ¬ (L b = 1 ∧ R b < t + 1 - (D b - d b))) : ∀ i, i < 13 → lr i = nI (ed_R2 d L D R t (some b) i) := by
  intro i hi
  unfold ed_R2
  rw [if_neg (fun h => by
    have e : b = i := Option.some.inj h.1
    subst e
    exact hn h.2)]
  exact H i hi
theorem ru_R_put {lr : Nat → Int32} {d L D R : Nat → Nat} {t b : Nat} (H : ∀ i, i < 13 → lr i = nI (R i))
    (hn : L b = 1 ∧ R b < t + 1 - (D b - d b)) : ∀ i, i < 13 → upd lr b (nI (t + 1 - (D b - d b))) i = nI (ed_R2 d L D R t (some b) i) := by
  intro i hi
  unfold ed_R2
  by_cases z : i = b
  · subst z
    rw [if_pos ⟨rfl, hn⟩, pk_us]
  · rw [if_neg (fun h => z (Option.some.inj h.1).symm), pk_un z]
    exact H i hi
theorem ru_S_put {rs : Nat → Int32} {B : Nat → Option Nat} {t : Nat} {x : Int32} (H : ∀ s, s < t → rs s = ru_e (B s)) (hx : x = ru_e (B t)) :
    ∀ s, s < t + 1 → upd rs t x s = ru_e (B s) := by
  intro s hs
  by_cases z : s = t
  · subst z; rw [pk_us, hx]
  · rw [pk_un z]; exact H s (by omega)
/-- a job that is left: released at D - d -/
theorem ru_rel {c d p : Nat → Nat} {t i : Nat} (h : 0 < ed_LA c d p t i) : d i ≤ ed_DA c d p t i ∧ ed_DA c d p t i - d i ≤ t := by
  obtain ⟨h1, h2, r, h3, h4, h5, h6⟩ := ed_invB c d p t i h
  omega
