/-! SchemaTwins: the reference's small methods -/
section
variable {vs n : Nat} {P K A Z W KY : Nat → Nat} {nu dr ky va kn : Nat → Int32} {post : Int32 → Prop}
theorem tw_yin1 {a m : Nat} (ha : a < m) (hm : m < 2 ^ 31) (h : post 1) : wpY_in post (tw_S vs n P K A Z W nu ky va dr kn) (nI a) 0 (nI (m - 1)) :=
  br_f (nI_pos (by omega)) (br_f (nI_nlt (a := m - 1) (b := a) (by omega) (by omega)) h)
theorem tw_yin0 {x : Int32} {m : Nat} (h0 : 0 < m) (hm : m < 2 ^ 31) (hx : ¬ ∃ a, a < m ∧ x = nI a) (h : post 0) : wpY_in post (tw_S vs n P K A Z W nu ky va dr kn) x 0 (nI (m - 1)) := by
  rcases tw_lt x (n := m) hm with ⟨j, hj, e, _⟩ | ⟨a, _⟩ | ⟨a, b, c, d⟩
  · exact absurd ⟨j, hj, e⟩ hx
  · exact br_t a h
  · exact br_f a (br_t (Int32.lt_of_lt_of_le (nI_lt (a := m - 1) (b := m) (by omega) hm) c) h)
theorem tw_yV1 {v : Nat} (hv : v < vs) (h8 : vs ≤ 8) (h : post 1) : wpY_isVersion post (tw_S vs n P K A Z W nu ky va dr kn) (nI v) := by
  unfold wpY_isVersion
  simp only [tw_S]
  have e : nI vs - 1 = nI (vs - 1) := pk_sub (b := 1) (by omega)
  rw [e]
  exact tw_yin1 hv (by omega) ⟨rfl, h⟩
theorem tw_yV0 {x : Int32} (h1 : 1 ≤ vs) (h8 : vs ≤ 8) (hx : ¬ ∃ v, v < vs ∧ x = nI v) (h : post 0) : wpY_isVersion post (tw_S vs n P K A Z W nu ky va dr kn) x := by
  unfold wpY_isVersion
  simp only [tw_S]
  have e : nI vs - 1 = nI (vs - 1) := pk_sub (b := 1) (by omega)
  rw [e]
  exact tw_yin0 (by omega) (by omega) hx ⟨rfl, h⟩
theorem tw_yC1 {v c : Nat} (hv : v < 8) (hc : c < W v) (hW : W v ≤ 5) (h : post 1) : wpY_in post (tw_S vs n P K A Z W nu ky va dr kn) (nI c) 0 (tw_f W (nI v).toNatClampNeg - 1) := by
  have e : tw_f W v - 1 = nI (W v - 1) := pk_sub (b := 1) (by omega)
  rw [nI_clamp (by omega), e]
  exact tw_yin1 hc (by omega) h
theorem tw_yC0 {v : Nat} {x : Int32} (hv : v < 8) (h1 : 1 ≤ W v) (hW : W v ≤ 5) (hx : ¬ ∃ c, c < W v ∧ x = nI c) (h : post 0) : wpY_in post (tw_S vs n P K A Z W nu ky va dr kn) x 0 (tw_f W (nI v).toNatClampNeg - 1) := by
  have e : tw_f W v - 1 = nI (W v - 1) := pk_sub (b := 1) (by omega)
  rw [nI_clamp (by omega), e]
  exact tw_yin0 (by omega) (by omega) hx h
theorem tw_ypsl {r : Nat} (hr : r ≤ 12) (hw : tw_wf vs P K A Z W) : ∀ d i w, i + d = 8 → w < vs → post (tw_b (tw_ps P K A nu (tw_Y (40 * r) va) d w)) → wY_isShown_5 post (nI r) (nI vs) (nI n) (tw_f P) (tw_f K) (tw_f A) (tw_f Z) nu (tw_f W) ky va dr kn (d + 1) (nI w) (nI i) := by
  intro d
  induction d with
  | zero =>
    intro i w hi hv h
    exact br_t (nI_le (a := 8) (by omega) (by omega)) h
  | succ d ih =>
    intro i w hi hv h
    have h8 := hw.2.1
    refine br_f (nI_ge (b := 8) (by omega) (by omega)) ?_
    by_cases w0 : w = 0
    · subst w0
      exact br_t (Int32.le_refl _) h
    · have hq := hw.2.2.2 w (by omega) hv
      have ok := hq.2
      unfold tw_ok at ok
      have c : (nI w).toNatClampNeg = w := nI_clamp (by omega)
      have i8 : vp_in (nI w) 8 := vp_in_nI (by omega) (by omega)
      have e1 : tw_ps P K A nu (tw_Y (40 * r) va) (d + 1) w = if K w = 3 ∧ tw_Y (40 * r) va w (A w) < nu w then false else tw_ps P K A nu (tw_Y (40 * r) va) d (P w) := if_neg w0
      rw [e1] at h
      refine br_f (nI_nle (by omega) (by omega)) ⟨i8, ?_⟩
      simp (disch := omega) only [c, forall_eq, tw_f, tw_in, true_and, nI_1]
      refine pk_eq (K w) 3 (fun e => ?_) (fun e => ?_)
      · have hx : A w < 5 := by omega
        simp (disch := omega) only [tw_cY, nI_add, nI_clamp, tw_in, true_and]
        refine br_c (fun g => ?_) (fun g => ?_)
        · have nq : ¬ (K w = 3 ∧ tw_Y (40 * r) va w (A w) < nu w) := fun q => absurd g (Int32.not_le.mpr q.2)
          rw [if_neg nq] at h
          exact ih (i + 1) (P w) (by omega) (by omega) h
        · rw [if_pos ⟨e, Int32.not_le.mp g⟩] at h
          exact h
      · have nq : ¬ (K w = 3 ∧ tw_Y (40 * r) va w (A w) < nu w) := fun q => e q.1
        rw [if_neg nq] at h
        exact ih (i + 1) (P w) (by omega) (by omega) h
theorem tw_yps {r v : Nat} (hr : r ≤ 12) (hw : tw_wf vs P K A Z W) (hv : v < vs) (h : post (tw_b (tw_ps P K A nu (tw_Y (40 * r) va) 8 v))) : wpY_isShown post (tw_S vs n P K A Z W nu ky va dr kn) (nI r) (nI v) := ⟨9, tw_ypsl hr hw 8 0 v rfl hv h⟩
theorem tw_yfl {x : Int32} (hn : n ≤ 12) (h0 : (∀ r, r < n → ky r ≠ x) → post (-1)) (h1 : ∀ r, r < n → ky r = x → post (nI r)) : ∀ d i, i + d = n → (∀ r, r < i → ky r ≠ x) → wY_find_2 post x (nI vs) (nI n) (tw_f P) (tw_f K) (tw_f A) (tw_f Z) nu (tw_f W) ky va dr kn (d + 1) (nI i) := by
  intro d
  induction d with
  | zero =>
    intro i hi I
    have ei : i = n := by omega
    subst ei
    exact br_t (Int32.le_refl _) (h0 I)
  | succ d ih =>
    intro i hi I
    refine br_f (nI_ge (by omega) (by omega)) ⟨vp_in_nI (by omega) (by omega), ?_⟩
    rw [nI_clamp (by omega)]
    refine br_c (fun e => h1 i (by omega) e) (fun e => nm_r (nI_1 i) (ih (i + 1) (by omega) (fun r hr => ?_)))
    by_cases q : r = i
    · rw [q]; exact e
    · exact I r (by omega)
theorem tw_yfi {x : Int32} (hn : n ≤ 12) (h0 : (∀ r, r < n → ky r ≠ x) → post (-1)) (h1 : ∀ r, r < n → ky r = x → post (nI r)) : wpY_find post (tw_S vs n P K A Z W nu ky va dr kn) x :=
  ⟨n + 1, tw_yfl hn h0 h1 n 0 (by omega) (fun r h => absurd h (Nat.not_lt_zero _))⟩
end
section
variable {vs n : Nat} {P K A Z W KY : Nat → Nat} {nu dr ky va kn : Nat → Int32} {post : SY → Prop}
theorem tw_ycpl {s t : Nat} (hs : s ≤ 12) (ht : t ≤ 12) (hd : s ≠ t) (hp : ∀ f', tw_I va (40 * t) (fun i => va (40 * s + i)) 40 f' → post (tw_S vs n P K A Z W nu ky f' dr kn)) :
    ∀ d i f, i + d = 40 → tw_I va (40 * t) (fun i => va (40 * s + i)) i f → wY_copy_2 post (nI t) (nI s) (nI vs) (nI n) (d + 1) (nI i) (tw_f P) (tw_f K) (tw_f A) (tw_f Z) nu (tw_f W) ky f dr kn := by
  intro d
  induction d with
  | zero =>
    intro i f hi' I
    have ei : i = 40 := by omega
    subst ei
    exact br_t (Int32.le_refl _) (hp _ I)
  | succ d ih =>
    intro i f hi' I
    refine br_f (nI_ge (b := 40) (by omega) (by omega)) ?_
    simp (disch := omega) only [forall_eq, tw_40, nI_add, nI_clamp, tw_in, true_and, nI_1]
    exact ih (i + 1) _ (by omega) (tw_I_s I (I.2 _ (by omega)))
theorem tw_ycp {s t : Nat} (hs : s ≤ 12) (ht : t ≤ 12) (hd : s ≠ t) (hp : ∀ f', tw_I va (40 * t) (fun i => va (40 * s + i)) 40 f' → post (tw_S vs n P K A Z W nu ky f' dr kn)) :
    wpY_copy post (tw_S vs n P K A Z W nu ky va dr kn) (nI t) (nI s) := ⟨41, tw_ycpl hs ht hd hp 40 0 _ rfl tw_I_0⟩
end
