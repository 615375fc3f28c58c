/-! SchemaTwins: the component's small methods -/
abbrev tw_X (vs n : Nat) (P K A Z W : Nat → Nat) (nu dr pr ce rc : Nat → Int32) : SX := (nI vs, nI n, tw_f P, tw_f K, tw_f A, tw_f Z, nu, tw_f W, dr, pr, ce, rc)
abbrev tw_S (vs n : Nat) (P K A Z W : Nat → Nat) (nu ky va dr kn : Nat → Int32) : SY := (nI vs, nI n, tw_f P, tw_f K, tw_f A, tw_f Z, nu, tw_f W, ky, va, dr, kn)
section
variable {vs n : Nat} {P K A Z W : Nat → Nat} {nu dr pr ce rc ky va kn : Nat → Int32} {post : Int32 → Prop}
theorem tw_xV1 {v : Nat} (hv : v < vs) (h8 : vs ≤ 8) (h : post 1) : wpX_isVersion post (tw_X vs n P K A Z W nu dr pr ce rc) (nI v) := br_f (nI_pos (by omega)) (br_f (nI_ge hv (by omega)) h)
theorem tw_xV0 {x : Int32} (h8 : vs ≤ 8) (hx : ¬ ∃ v, v < vs ∧ x = nI v) (h : post 0) : wpX_isVersion post (tw_X vs n P K A Z W nu dr pr ce rc) x := by
  rcases tw_lt x (n := vs) (by omega) with ⟨j, hj, e, _⟩ | ⟨a, _⟩ | ⟨a, b, c, d⟩
  · exact absurd ⟨j, hj, e⟩ hx
  · exact br_t a h
  · exact br_f a (br_t c h)
theorem tw_xK1 {v : Nat} (hv : v < 100) (h : post 1) : wpX_isKey post (tw_X vs n P K A Z W nu dr pr ce rc) (nI v) := br_f (nI_pos (by omega)) (br_f (nI_ge (b := 100) hv (by omega)) h)
theorem tw_xK0 {x : Int32} (hx : ¬ ∃ v, v < 100 ∧ x = nI v) (h : post 0) : wpX_isKey post (tw_X vs n P K A Z W nu dr pr ce rc) x := by
  rcases tw_lt x (n := 100) (by omega) with ⟨j, hj, e, _⟩ | ⟨a, _⟩ | ⟨a, b, c, d⟩
  · exact absurd ⟨j, hj, e⟩ hx
  · exact br_t a h
  · exact br_f a (br_t c h)
theorem tw_xcb {r w : Nat} (h : post (nI (r * 40 + w * 5))) : wpX_cellBase post (tw_X vs n P K A Z W nu dr pr ce rc) (nI r) (nI w) := by
  show post (nI r * 40 + nI w * 5)
  rw [tw_cb]; exact h
theorem tw_xcm {w : Nat} (hw : w < 8) (hk : K w ≤ 5) (h1 : 1 ≤ W w) (h : post (nI (tw_cm (K w) (W w)))) : wpX_commonColumns post (tw_X vs n P K A Z W nu dr pr ce rc) (nI w) := by
  unfold wpX_commonColumns
  simp (disch := omega) only [tw_X, nI_clamp, tw_f, tw_in, true_and]
  refine pk_eq (K w) 0 (fun e => ?_) (fun e => ?_)
  · have q : tw_cm (K w) (W w) = W w - 1 := by rw [e]; rfl
    rw [q, ← pk_sub h1] at h; exact h
  · have q : tw_cm (K w) (W w) = W w := if_neg e
    rw [q] at h; exact h
theorem tw_xcp {w c : Nat} (hw : w < 8) (hk : K w ≤ 5) (hx : A w < 8) (hz : Z w < 8) (hc : c < 8) (h : post (nI (tw_th (K w) (A w) (Z w) c))) : wpX_columnInParent post (tw_X vs n P K A Z W nu dr pr ce rc) (nI w) (nI c) := by
  unfold wpX_columnInParent wX_columnInParent_56
  simp (disch := omega) only [tw_X, forall_eq, nI_clamp, tw_f, tw_in, true_and, nI_1]
  refine pk_eq (K w) 1 (fun e => pk_le (A w) c (fun g => ?_) (fun g => ?_)) (fun e => pk_eq (K w) 4 (fun e4 => pk_eq c (A w) (fun g => ?_) (fun g => pk_eq (K w) 4 (fun _ => pk_eq c (Z w) (fun g' => ?_) (fun g' => ?_)) (fun q => absurd e4 q))) (fun e4 => pk_eq (K w) 4 (fun q => absurd q e4) (fun _ => ?_)))
  · have q : tw_th (K w) (A w) (Z w) c = c + 1 := by rw [e]; exact if_neg (by omega)
    rw [q] at h; exact h
  · have q : tw_th (K w) (A w) (Z w) c = c := by rw [e]; exact if_pos g
    rw [q] at h; exact h
  · have q : tw_th (K w) (A w) (Z w) c = Z w := by rw [e4]; exact if_pos g
    rw [q] at h; exact h
  · have q : tw_th (K w) (A w) (Z w) c = A w := by rw [e4]; exact (if_neg g).trans (if_pos g')
    rw [q] at h; exact h
  · have q : tw_th (K w) (A w) (Z w) c = c := by rw [e4]; exact (if_neg g).trans (if_neg g')
    rw [q] at h; exact h
  · rw [tw_th_o e e4] at h; exact h
theorem tw_xC1 {v c : Nat} (hv : v < vs) (h8 : vs ≤ 8) (hc : c < W v) (hW : W v ≤ 5) (h : post 1) : wpX_isColumn post (tw_X vs n P K A Z W nu dr pr ce rc) (nI v) (nI c) := by
  unfold wpX_isColumn
  dsimp only [tw_X]
  refine tw_xV1 hv h8 ?_
  refine tw_c1 (br_f (nI_pos (by omega)) ⟨vp_in_nI (by omega) (by omega), ?_⟩)
  rw [nI_clamp (by omega)]
  exact br_f (nI_ge hc (by omega)) h
theorem tw_xC0 {x y : Int32} (h8 : vs ≤ 8) (hW : ∀ v, v < vs → W v ≤ 5) (hx : ¬ ∃ v, v < vs ∧ x = nI v ∧ ∃ c, c < W v ∧ y = nI c) (h : post 0) : wpX_isColumn post (tw_X vs n P K A Z W nu dr pr ce rc) x y := by
  unfold wpX_isColumn
  dsimp only [tw_X]
  by_cases hv : ∃ v, v < vs ∧ x = nI v
  · obtain ⟨v, hv, rfl⟩ := hv
    have h5 := hW v hv
    refine tw_xV1 hv h8 ?_
    refine tw_c1 ?_
    rcases tw_lt y (n := W v) (by omega) with ⟨j, hj, e, _⟩ | ⟨a, _⟩ | ⟨a, b, c, d⟩
    · exact absurd ⟨v, hv, rfl, j, hj, e⟩ hx
    · exact br_t a h
    · refine br_f a ⟨vp_in_nI (by omega) (by omega), ?_⟩
      rw [nI_clamp (by omega)]
      exact br_t c h
  · refine tw_xV0 h8 hv ?_
    exact tw_c0 h
theorem tw_xpsl {r : Nat} (hr : r ≤ 100) (hw : tw_wf vs P K A Z W) : ∀ d i w, i + d = 8 → w < vs → post (tw_b (tw_ps P K A nu (tw_V (r * 40) ce) d w)) → wX_passes_5 post (nI r) (nI vs) (nI n) (tw_f P) (tw_f K) (tw_f A) (tw_f Z) nu (tw_f W) dr pr ce rc (d + 1) (nI w) (nI i) := by
  intro d
  induction d with
  | zero => 
    intro i w hi hv h
    exact br_t (nI_le (a := 8) (by omega) (by omega)) h
  | succ d ih =>
    intro i w hi hv h
    have h8 := hw.2.1
    refine br_f (nI_ge (b := 8) (by omega) (by omega)) ?_
    by_cases w0 : w = 0
    · subst w0
      exact br_t (Int32.le_refl _) h
    · have hq := hw.2.2.2 w (by omega) hv
      have ok := hq.2
      unfold tw_ok at ok
      have c : (nI w).toNatClampNeg = w := nI_clamp (by omega)
      have i8 : vp_in (nI w) 8 := vp_in_nI (by omega) (by omega)
      have e1 : tw_ps P K A nu (tw_V (r * 40) ce) (d + 1) w = if K w = 3 ∧ tw_V (r * 40) ce w (A w) < nu w then false else tw_ps P K A nu (tw_V (r * 40) ce) d (P w) := if_neg w0
      rw [e1] at h
      refine br_f (nI_nle (by omega) (by omega)) ⟨i8, ?_⟩
      simp (disch := omega) only [c, forall_eq, tw_f, tw_in, true_and, nI_1]
      refine pk_eq (K w) 3 (fun e => tw_xcb ?_) (fun e => ?_)
      · have hx : A w < 5 := by omega
        simp (disch := omega) only [c, forall_eq, tw_f, tw_in, true_and, nI_1, nI_add, nI_clamp]
        refine br_c (fun g => ?_) (fun g => ?_)
        · rw [if_neg (fun q => absurd g (Int32.not_le.mpr q.2))] at h
          exact ih (i + 1) (P w) (by omega) (by omega) h
        · rw [if_pos ⟨e, Int32.not_le.mp g⟩] at h
          exact h
      · rw [if_neg (fun q => e q.1)] at h
        exact ih (i + 1) (P w) (by omega) (by omega) h
theorem tw_xps {r v : Nat} (hr : r ≤ 100) (hw : tw_wf vs P K A Z W) (hv : v < vs) (h : post (tw_b (tw_ps P K A nu (tw_V (r * 40) ce) 8 v))) : wpX_passes post (tw_X vs n P K A Z W nu dr pr ce rc) (nI r) (nI v) := ⟨9, tw_xpsl hr hw 8 0 v rfl hv h⟩
theorem tw_xS {k v : Nat} (hk : k < 100) (hw : tw_wf vs P K A Z W) (hv : v < vs) (h0 : pr k = 0 → post 0) (h1 : pr k ≠ 0 → post (tw_b (tw_ps P K A nu (tw_V (k * 40) ce) 8 v))) : wpX_isShown post (tw_X vs n P K A Z W nu dr pr ce rc) (nI v) (nI k) := by
  unfold wpX_isShown
  dsimp only [tw_X]
  refine tw_xK1 hk ?_
  refine tw_c1 ⟨vp_in_nI hk (by omega), ?_⟩
  rw [nI_clamp (by omega)]
  refine br_c h0 (fun g => tw_xps (by omega) hw hv ?_)
  have h := h1 g
  cases e : tw_ps P K A nu (tw_V (k * 40) ce) 8 v
  · rw [e] at h; exact tw_c0 h
  · rw [e] at h; exact tw_c1 h
theorem tw_xS0 {x y : Int32} (hk : ¬ ∃ k, k < 100 ∧ y = nI k) (h : post 0) : wpX_isShown post (tw_X vs n P K A Z W nu dr pr ce rc) x y := by
  unfold wpX_isShown
  dsimp only [tw_X]
  refine tw_xK0 hk ?_
  exact tw_c0 h
end
