/-! SchemaTwins: value, count, sum, key, delete -/
theorem i_vc_value {k : Nat} {u : SX} {v : SY} (I : i_Rel k u v) (hk : k + 5 ≤ 2560) (v1 : Int32) (v2 : Int32) (v3 : Int32) : wpX_value (fun r => wpY_value (fun r' => r' = r ∧ i_Rel (k + 5) u v) v v1 v2 v3) u v1 v2 v3 := by
  have I' : i_Rel (k + 5) u v := I
  obtain ⟨vs, n, P, K, A, Z, W, KY, nu, dr, pr, ce, rc, ky, va, kn, rfl, rfl, hw, hK, hV⟩ := I
  have h8 := hw.2.1
  have h1 := hw.1
  have n12 := hK.1
  have hW : ∀ v, v < vs → W v ≤ 5 := fun v hv => (hw.2.2.1 v hv).2
  unfold wpX_value
  dsimp only [tw_X]
  by_cases hv : ∃ v, v < vs ∧ v1 = nI v
  · obtain ⟨v, hv, rfl⟩ := hv
    have h5 := hw.2.2.1 v hv
    by_cases hc : ∃ c, c < W v ∧ v3 = nI c
    · obtain ⟨c, hc, rfl⟩ := hc
      refine tw_xC1 hv h8 hc (hW v hv) ?_
      refine tw_c1 ?_
      by_cases hy : ∃ r, r < n ∧ v2 = nI (KY r)
      · obtain ⟨r, hr, rfl⟩ := hy
        have k100 := (hK.2.1 r hr).2
        refine tw_xshC hw hK hV hv hr ?_
        cases e : tw_ps P K A nu (tw_Y (40 * r) va) 8 v
        · refine tw_c0 ?_
          unfold wpY_value
          dsimp only [tw_S]
          refine tw_yshC hw hK hv hr ?_
          rw [e]
          exact tw_c0 ⟨rfl, I'⟩
        · refine tw_c1 (tw_xcb ?_)
          simp (disch := omega) only [nI_add, nI_clamp, tw_in, true_and]
          unfold wpY_value
          dsimp only [tw_S]
          refine tw_yshC hw hK hv hr ?_
          rw [e]
          refine tw_c1 ⟨vp_in_nI (by omega) (by omega), ?_⟩
          refine tw_yC1 (by omega) hc (hW v hv) ?_
          refine tw_c1 ?_
          refine tw_fS hK hr ?_
          simp (disch := omega) only [tw_cY, nI_add, nI_clamp, tw_in, true_and]
          exact ⟨(hV r hr v hv c hc).symm, I'⟩
      · have ny : ∀ r, r < n → v2 ≠ nI (KY r) := fun r hr e => hy ⟨r, hr, e⟩
        refine tw_xshB hw hK hv ny ?_
        refine tw_c0 ?_
        unfold wpY_value
        dsimp only [tw_S]
        refine tw_yshB h8 hK hv ny ?_
        exact tw_c0 ⟨rfl, I'⟩
    · have nc : ¬ ∃ w, w < vs ∧ nI v = nI w ∧ ∃ c, c < W w ∧ v3 = nI c := by
        rintro ⟨w, hw', e, h⟩
        rw [(nI_eq (by omega) (by omega)).mp e] at hc
        exact hc h
      refine tw_xC0 h8 hW nc ?_
      refine tw_c0 ?_
      unfold wpY_value
      dsimp only [tw_S]
      by_cases hy : ∃ r, r < n ∧ v2 = nI (KY r)
      · obtain ⟨r, hr, rfl⟩ := hy
        refine tw_yshC hw hK hv hr ?_
        cases e : tw_ps P K A nu (tw_Y (40 * r) va) 8 v
        · exact tw_c0 ⟨rfl, I'⟩
        · refine tw_c1 ⟨vp_in_nI (by omega) (by omega), ?_⟩
          refine tw_yC0 (by omega) h5.1 h5.2 hc ?_
          exact tw_c0 ⟨rfl, I'⟩
      · have ny : ∀ r, r < n → v2 ≠ nI (KY r) := fun r hr e => hy ⟨r, hr, e⟩
        refine tw_yshB h8 hK hv ny ?_
        exact tw_c0 ⟨rfl, I'⟩
  · have nc : ¬ ∃ w, w < vs ∧ v1 = nI w ∧ ∃ c, c < W w ∧ v3 = nI c := fun ⟨w, hw', e, _⟩ => hv ⟨w, hw', e⟩
    refine tw_xC0 h8 hW nc ?_
    refine tw_c0 ?_
    unfold wpY_value
    dsimp only [tw_S]
    refine tw_yshA h1 h8 hK.1 hv ?_
    exact tw_c0 ⟨rfl, I'⟩
section
variable {vs n : Nat} {P K A Z W KY : Nat → Nat} {nu dr pr ce rc ky va kn : Nat → Int32} {post : Int32 → Prop}
theorem tw_nk {k : Nat} (hK : tw_keys n KY pr ky) (hk : k < 100) (h : ∀ q, q < n → KY q ≠ k) : ∀ r, r < n → nI k ≠ nI (KY r) := fun r hr e => h r hr (tw_inj31 (hK.2.1 r hr).2 hk e.symm)
theorem tw_xcnt {v : Nat} (hw : tw_wf vs P K A Z W) (hK : tw_keys n KY pr ky) (hV : tw_vals vs n W KY ce va) (hv : v < vs) (h : post (tw_sum (fun r => tw_ps P K A nu (tw_Y (40 * r) va) 8 v) (fun _ => 1) n)) :
    ∀ d k r, k + d = 100 → tw_at n KY k r → wX_count_14 post (nI v) (nI vs) (nI n) (tw_f P) (tw_f K) (tw_f A) (tw_f Z) nu (tw_f W) dr pr ce rc (d + 1) (tw_sum (fun r => tw_ps P K A nu (tw_Y (40 * r) va) 8 v) (fun _ => 1) r) (nI k) := by
  intro d
  induction d with
  | zero =>
    intro k r hk ha
    have ek : k = 100 := by omega
    subst ek
    rw [tw_at_e ha (fun q hq => (hK.2.1 q hq).2)]
    exact br_t (Int32.le_refl _) h
  | succ d ih =>
    intro k r hk ha
    refine br_f (nI_ge (b := 100) (by omega) (by omega)) ?_
    by_cases hy : ∃ q, q < n ∧ KY q = k
    · obtain ⟨q, hq, rfl⟩ := hy
      obtain ⟨rfl, ha2⟩ := tw_at_s ha hK.2.2.1 hq rfl
      refine tw_xshC hw hK hV hv hq ?_
      have i2 := ih (KY q + 1) (q + 1) (by omega) ha2
      have e1 : tw_sum (fun r => tw_ps P K A nu (tw_Y (40 * r) va) 8 v) (fun _ => 1) (q + 1) = if tw_ps P K A nu (tw_Y (40 * q) va) 8 v = true then tw_sum (fun r => tw_ps P K A nu (tw_Y (40 * r) va) 8 v) (fun _ => 1) q + 1 else tw_sum (fun r => tw_ps P K A nu (tw_Y (40 * r) va) 8 v) (fun _ => 1) q := rfl
      cases e : tw_ps P K A nu (tw_Y (40 * q) va) 8 v
      · rw [e1, e, if_neg (by decide)] at i2
        exact tw_c0 (nm_r (nI_1 _) i2)
      · rw [e1, e, if_pos rfl] at i2
        exact tw_c1 (nm_e (nm_r (nI_1 _) i2))
    · have ny : ∀ q, q < n → KY q ≠ k := fun q hq e => hy ⟨q, hq, e⟩
      refine tw_xshB hw hK hv (tw_nk hK (by omega) ny) ?_
      exact tw_c0 (nm_r (nI_1 _) (ih (k + 1) r (by omega) (tw_at_n ha ny)))
theorem tw_ycnt {v : Nat} (hw : tw_wf vs P K A Z W) (hn : n ≤ 12) (hv : v < vs) (h : post (tw_sum (fun r => tw_ps P K A nu (tw_Y (40 * r) va) 8 v) (fun _ => 1) n)) :
    ∀ d r, r + d = n → wY_count_14 post (nI v) (nI vs) (nI n) (tw_f P) (tw_f K) (tw_f A) (tw_f Z) nu (tw_f W) ky va dr kn (d + 1) (tw_sum (fun r => tw_ps P K A nu (tw_Y (40 * r) va) 8 v) (fun _ => 1) r) (nI r) := by
  intro d
  induction d with
  | zero =>
    intro r hr
    have er : r = n := by omega
    subst er
    exact br_t (Int32.le_refl _) h
  | succ d ih =>
    intro q hr
    refine br_f (nI_ge (by omega) (by omega)) ?_
    refine tw_yps (by omega) hw hv ?_
    have i2 := ih (q + 1) (by omega)
    have e1 : tw_sum (fun r => tw_ps P K A nu (tw_Y (40 * r) va) 8 v) (fun _ => 1) (q + 1) = if tw_ps P K A nu (tw_Y (40 * q) va) 8 v = true then tw_sum (fun r => tw_ps P K A nu (tw_Y (40 * r) va) 8 v) (fun _ => 1) q + 1 else tw_sum (fun r => tw_ps P K A nu (tw_Y (40 * r) va) 8 v) (fun _ => 1) q := rfl
    cases e : tw_ps P K A nu (tw_Y (40 * q) va) 8 v
    · rw [e1, e, if_neg (by decide)] at i2
      exact tw_c0 (nm_r (nI_1 _) i2)
    · rw [e1, e, if_pos rfl] at i2
      exact tw_c1 (nm_e (nm_r (nI_1 _) i2))
theorem tw_xsum {v c : Nat} (hw : tw_wf vs P K A Z W) (hK : tw_keys n KY pr ky) (hV : tw_vals vs n W KY ce va) (hv : v < vs) (hc : c < W v) (h : post (tw_sum (fun r => tw_ps P K A nu (tw_Y (40 * r) va) 8 v) (fun r => va (40 * r + 5 * v + c)) n)) :
    ∀ d k r, k + d = 100 → tw_at n KY k r → wX_sum_16 post (nI v) (nI c) (nI vs) (nI n) (tw_f P) (tw_f K) (tw_f A) (tw_f Z) nu (tw_f W) dr pr ce rc (d + 1) (tw_sum (fun r => tw_ps P K A nu (tw_Y (40 * r) va) 8 v) (fun r => va (40 * r + 5 * v + c)) r) (nI k) := by
  have h8 := hw.2.1
  have h5 := (hw.2.2.1 v hv).2
  intro d
  induction d with
  | zero =>
    intro k r hk ha
    have ek : k = 100 := by omega
    subst ek
    rw [tw_at_e ha (fun q hq => (hK.2.1 q hq).2)]
    exact br_t (Int32.le_refl _) h
  | succ d ih =>
    intro k r hk ha
    refine br_f (nI_ge (b := 100) (by omega) (by omega)) ?_
    by_cases hy : ∃ q, q < n ∧ KY q = k
    · obtain ⟨q, hq, rfl⟩ := hy
      obtain ⟨rfl, ha2⟩ := tw_at_s ha hK.2.2.1 hq rfl
      have k100 := (hK.2.1 q hq).2
      refine tw_xshC hw hK hV hv hq ?_
      have i2 := ih (KY q + 1) (q + 1) (by omega) ha2
      have e1 : tw_sum (fun r => tw_ps P K A nu (tw_Y (40 * r) va) 8 v) (fun r => va (40 * r + 5 * v + c)) (q + 1) = if tw_ps P K A nu (tw_Y (40 * q) va) 8 v = true then tw_sum (fun r => tw_ps P K A nu (tw_Y (40 * r) va) 8 v) (fun r => va (40 * r + 5 * v + c)) q + va (40 * q + 5 * v + c) else tw_sum (fun r => tw_ps P K A nu (tw_Y (40 * r) va) 8 v) (fun r => va (40 * r + 5 * v + c)) q := rfl
      cases e : tw_ps P K A nu (tw_Y (40 * q) va) 8 v
      · rw [e1, e, if_neg (by decide)] at i2
        exact tw_c0 (nm_r (nI_1 _) i2)
      · rw [e1, e, if_pos rfl, ← hV q hq v hv c hc] at i2
        refine tw_c1 (tw_xcb ?_)
        simp (disch := omega) only [forall_eq, nI_add, nI_clamp, tw_in, true_and, nI_1]
        exact i2
    · have ny : ∀ q, q < n → KY q ≠ k := fun q hq e => hy ⟨q, hq, e⟩
      refine tw_xshB hw hK hv (tw_nk hK (by omega) ny) ?_
      exact tw_c0 (nm_r (nI_1 _) (ih (k + 1) r (by omega) (tw_at_n ha ny)))
theorem tw_ysum {v c : Nat} (hw : tw_wf vs P K A Z W) (hn : n ≤ 12) (hv : v < vs) (hc : c < W v) (h : post (tw_sum (fun r => tw_ps P K A nu (tw_Y (40 * r) va) 8 v) (fun r => va (40 * r + 5 * v + c)) n)) :
    ∀ d r, r + d = n → wY_sum_32 post (nI v) (nI c) (nI vs) (nI n) (tw_f P) (tw_f K) (tw_f A) (tw_f Z) nu (tw_f W) ky va dr kn (d + 1) (tw_sum (fun r => tw_ps P K A nu (tw_Y (40 * r) va) 8 v) (fun r => va (40 * r + 5 * v + c)) r) (nI r) := by
  have h8 := hw.2.1
  have h5 := (hw.2.2.1 v hv).2
  intro d
  induction d with
  | zero =>
    intro r hr
    have er : r = n := by omega
    subst er
    exact br_t (Int32.le_refl _) h
  | succ d ih =>
    intro q hr
    refine br_f (nI_ge (by omega) (by omega)) ?_
    refine tw_yps (by omega) hw hv ?_
    have i2 := ih (q + 1) (by omega)
    have e1 : tw_sum (fun r => tw_ps P K A nu (tw_Y (40 * r) va) 8 v) (fun r => va (40 * r + 5 * v + c)) (q + 1) = if tw_ps P K A nu (tw_Y (40 * q) va) 8 v = true then tw_sum (fun r => tw_ps P K A nu (tw_Y (40 * r) va) 8 v) (fun r => va (40 * r + 5 * v + c)) q + va (40 * q + 5 * v + c) else tw_sum (fun r => tw_ps P K A nu (tw_Y (40 * r) va) 8 v) (fun r => va (40 * r + 5 * v + c)) q := rfl
    cases e : tw_ps P K A nu (tw_Y (40 * q) va) 8 v
    · rw [e1, e, if_neg (by decide)] at i2
      exact tw_c0 (nm_r (nI_1 _) i2)
    · rw [e1, e, if_pos rfl] at i2
      refine tw_c1 ?_
      simp (disch := omega) only [forall_eq, tw_cY, nI_add, nI_clamp, tw_in, true_and, nI_1]
      exact i2
theorem tw_xkey {v : Nat} {kk : Int32} (hw : tw_wf vs P K A Z W) (hK : tw_keys n KY pr ky) (hV : tw_vals vs n W KY ce va) (hv : v < vs) :
    ∀ d k r bf, k + d = 100 → tw_at n KY k r → post (tw_key (fun r => tw_ps P K A nu (tw_Y (40 * r) va) 8 v) KY kk (n - r) r bf) → wX_key_15 post (nI v) kk (nI vs) (nI n) (tw_f P) (tw_f K) (tw_f A) (tw_f Z) nu (tw_f W) dr pr ce rc (d + 1) bf (nI k) := by
  intro d
  induction d with
  | zero =>
    intro k r bf hk ha h
    have ek : k = 100 := by omega
    subst ek
    rw [tw_at_e ha (fun q hq => (hK.2.1 q hq).2), Nat.sub_self] at h
    exact br_t (Int32.le_refl _) h
  | succ d ih =>
    intro k r bf hk ha h
    refine br_f (nI_ge (b := 100) (by omega) (by omega)) ?_
    by_cases hy : ∃ q, q < n ∧ KY q = k
    · obtain ⟨q, hq, rfl⟩ := hy
      obtain ⟨rfl, ha2⟩ := tw_at_s ha hK.2.2.1 hq rfl
      refine tw_xshC hw hK hV hv hq ?_
      rw [show n - q = n - (q + 1) + 1 by omega] at h
      unfold tw_key at h
      cases e : tw_ps P K A nu (tw_Y (40 * q) va) 8 v
      · rw [e, if_neg (by decide)] at h
        exact tw_c0 (nm_r (nI_1 _) (ih _ _ bf (by omega) ha2 h))
      · rw [e, if_pos rfl] at h
        refine tw_c1 (br_c (fun g => ?_) (fun g => nm_e (nm_r (nI_1 _) ?_)))
        · rw [if_pos g] at h; exact h
        · rw [if_neg g] at h
          exact ih _ _ _ (by omega) ha2 h
    · have ny : ∀ q, q < n → KY q ≠ k := fun q hq e => hy ⟨q, hq, e⟩
      refine tw_xshB hw hK hv (tw_nk hK (by omega) ny) ?_
      exact tw_c0 (nm_r (nI_1 _) (ih (k + 1) r bf (by omega) (tw_at_n ha ny) h))
theorem tw_ykey {v : Nat} {kk : Int32} (hw : tw_wf vs P K A Z W) (hK : tw_keys n KY pr ky) (hv : v < vs) :
    ∀ d r bf, r + d = n → post (tw_key (fun r => tw_ps P K A nu (tw_Y (40 * r) va) 8 v) KY kk d r bf) → wY_key_15 post (nI v) kk (nI vs) (nI n) (tw_f P) (tw_f K) (tw_f A) (tw_f Z) nu (tw_f W) ky va dr kn (d + 1) bf (nI r) := by
  have n12 := hK.1
  intro d
  induction d with
  | zero =>
    intro r bf hr h
    have er : r = n := by omega
    subst er
    exact br_t (Int32.le_refl _) h
  | succ d ih =>
    intro q bf hr h
    refine br_f (nI_ge (by omega) (by omega)) ?_
    refine tw_yps (by omega) hw hv ?_
    unfold tw_key at h
    cases e : tw_ps P K A nu (tw_Y (40 * q) va) 8 v
    · rw [e, if_neg (by decide)] at h
      exact tw_c0 (nm_r (nI_1 _) (ih _ bf (by omega) h))
    · rw [e, if_pos rfl] at h
      refine tw_c1 (br_c (fun g => ⟨vp_in_nI (by omega) (by omega), ?_⟩) (fun g => nm_e (nm_r (nI_1 _) ?_)))
      · rw [if_pos g] at h
        rw [nI_clamp (by omega), (hK.2.1 q (by omega)).1]; exact h
      · rw [if_neg g] at h
        exact ih _ _ (by omega) h
end
theorem i_vc_count {k : Nat} {u : SX} {v : SY} (I : i_Rel k u v) (hk : k + 5 ≤ 2560) (v1 : Int32) : wpX_count (fun r => wpY_count (fun r' => r' = r ∧ i_Rel (k + 5) u v) v v1) u v1 := by
  have I' : i_Rel (k + 5) u v := I
  obtain ⟨vs, n, P, K, A, Z, W, KY, nu, dr, pr, ce, rc, ky, va, kn, rfl, rfl, hw, hK, hV⟩ := I
  have h8 := hw.2.1
  have h1 := hw.1
  unfold wpX_count
  dsimp only [tw_X]
  by_cases hv : ∃ v, v < vs ∧ v1 = nI v
  · obtain ⟨v, hv, rfl⟩ := hv
    refine tw_xV1 hv h8 ?_
    refine tw_c1 ⟨101, ?_⟩
    refine tw_xcnt hw hK hV hv ?_ 100 0 0 rfl tw_at_0
    unfold wpY_count
    dsimp only [tw_S]
    refine tw_yV1 hv h8 ?_
    refine tw_c1 ⟨n + 1, ?_⟩
    exact tw_ycnt hw hK.1 hv ⟨rfl, I'⟩ n 0 (by omega)
  · refine tw_xV0 h8 hv ?_
    refine tw_c0 ?_
    unfold wpY_count
    dsimp only [tw_S]
    refine tw_yV0 h1 h8 hv ?_
    exact tw_c0 ⟨rfl, I'⟩
theorem i_vc_sum {k : Nat} {u : SX} {v : SY} (I : i_Rel k u v) (hk : k + 5 ≤ 2560) (v1 : Int32) (v2 : Int32) : wpX_sum (fun r => wpY_sum (fun r' => r' = r ∧ i_Rel (k + 5) u v) v v1 v2) u v1 v2 := by
  have I' : i_Rel (k + 5) u v := I
  obtain ⟨vs, n, P, K, A, Z, W, KY, nu, dr, pr, ce, rc, ky, va, kn, rfl, rfl, hw, hK, hV⟩ := I
  have h8 := hw.2.1
  have h1 := hw.1
  have hW : ∀ v, v < vs → W v ≤ 5 := fun v hv => (hw.2.2.1 v hv).2
  unfold wpX_sum
  dsimp only [tw_X]
  by_cases hv : ∃ v, v < vs ∧ v1 = nI v
  · obtain ⟨v, hv, rfl⟩ := hv
    have h5 := hw.2.2.1 v hv
    by_cases hc : ∃ c, c < W v ∧ v2 = nI c
    · obtain ⟨c, hc, rfl⟩ := hc
      refine tw_xC1 hv h8 hc (hW v hv) ?_
      refine tw_c1 ⟨101, ?_⟩
      refine tw_xsum hw hK hV hv hc ?_ 100 0 0 rfl tw_at_0
      unfold wpY_sum
      dsimp only [tw_S]
      refine tw_yV1 hv h8 ?_
      refine tw_c1 ⟨vp_in_nI (by omega) (by omega), ?_⟩
      refine tw_yC1 (by omega) hc (hW v hv) ?_
      refine tw_c1 ⟨n + 1, ?_⟩
      exact tw_ysum hw hK.1 hv hc ⟨rfl, I'⟩ n 0 (by omega)
    · have nc : ¬ ∃ w, w < vs ∧ nI v = nI w ∧ ∃ c, c < W w ∧ v2 = nI c := by
        rintro ⟨w, hw', e, h⟩
        rw [(nI_eq (by omega) (by omega)).mp e] at hc
        exact hc h
      refine tw_xC0 h8 hW nc ?_
      refine tw_c0 ?_
      unfold wpY_sum
      dsimp only [tw_S]
      refine tw_yV1 hv h8 ?_
      refine tw_c1 ⟨vp_in_nI (by omega) (by omega), ?_⟩
      refine tw_yC0 (by omega) h5.1 h5.2 hc ?_
      exact tw_c0 ⟨rfl, I'⟩
  · have nc : ¬ ∃ w, w < vs ∧ v1 = nI w ∧ ∃ c, c < W w ∧ v2 = nI c := fun ⟨w, hw', e, _⟩ => hv ⟨w, hw', e⟩
    refine tw_xC0 h8 hW nc ?_
    refine tw_c0 ?_
    unfold wpY_sum
    dsimp only [tw_S]
    refine tw_yV0 h1 h8 hv ?_
    exact tw_c0 ⟨rfl, I'⟩
theorem i_vc_key {k : Nat} {u : SX} {v : SY} (I : i_Rel k u v) (hk : k + 5 ≤ 2560) (v1 : Int32) (v2 : Int32) : wpX_key (fun r => wpY_key (fun r' => r' = r ∧ i_Rel (k + 5) u v) v v1 v2) u v1 v2 := by
  have I' : i_Rel (k + 5) u v := I
  obtain ⟨vs, n, P, K, A, Z, W, KY, nu, dr, pr, ce, rc, ky, va, kn, rfl, rfl, hw, hK, hV⟩ := I
  have h8 := hw.2.1
  have h1 := hw.1
  unfold wpX_key
  dsimp only [tw_X]
  by_cases hv : ∃ v, v < vs ∧ v1 = nI v
  · obtain ⟨v, hv, rfl⟩ := hv
    refine tw_xV1 hv h8 ?_
    refine tw_c1 ⟨101, ?_⟩
    refine tw_xkey hw hK hV hv 100 0 0 0 rfl tw_at_0 ?_
    unfold wpY_key
    dsimp only [tw_S]
    refine tw_yV1 hv h8 ?_
    refine tw_c1 ⟨n + 1, ?_⟩
    exact tw_ykey hw hK hv n 0 0 (by omega) ⟨rfl, I'⟩
  · refine tw_xV0 h8 hv ?_
    refine tw_c0 ?_
    unfold wpY_key
    dsimp only [tw_S]
    refine tw_yV0 h1 h8 hv ?_
    exact tw_c0 ⟨rfl, I'⟩
