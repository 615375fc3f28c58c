/-! SchemaTwins: the relation, and the owed statements of the methods that don't make rows or versions -/
/-- both sides have the same table of versions and the same draft; the component's rows by key are the reference's rows in ascending order -/
def i_Rel (_ : Nat) (u : SX) (v : SY) : Prop := ∃ (vs n : Nat) (P K A Z W KY : Nat → Nat) (nu dr pr ce rc ky va kn : Nat → Int32), u = tw_X vs n P K A Z W nu dr pr ce rc ∧ v = tw_S vs n P K A Z W nu ky va dr kn ∧ tw_wf vs P K A Z W ∧ tw_keys n KY pr ky ∧ tw_vals vs n W KY ce va
theorem i_up {k : Nat} {u : SX} {v : SY} (h : i_Rel k u v) : i_Rel (k + 5) u v := h
theorem i_vc0 : wpX_init (fun u => wpY_init (fun v => i_Rel 0 u v)) := by
  refine nm_r (e' := tw_f (tw_un (fun _ => 0) 0 2)) (tw_f_u (fun _ => 0) 0 2) (nm_r (e' := tw_f (tw_un (fun _ => 0) 0 2)) (tw_f_u (fun _ => 0) 0 2) ?_)
  refine ⟨1, 0, fun _ => 0, fun _ => 0, fun _ => 0, fun _ => 0, tw_un (fun _ => 0) 0 2, fun _ => 0, fun _ => 0, fun _ => 0, fun _ => 0, fun _ => 0, fun _ => 0, fun _ => 0, fun _ => 0, fun _ => 0, rfl, rfl, ?_, ?_, ?_⟩
  · refine ⟨Nat.le_refl _, by omega, fun w hw => ?_, fun w w0 w1 => absurd w0 (by omega)⟩
    have : w = 0 := by omega
    subst this
    rw [tw_un_s]; omega
  · exact ⟨by omega, fun r h => absurd h (Nat.not_lt_zero _), fun q r _ h => absurd h (Nat.not_lt_zero _), fun k _ => Or.inr ⟨rfl, fun r h => absurd h (Nat.not_lt_zero _)⟩⟩
  · exact fun r h => absurd h (Nat.not_lt_zero _)
theorem i_vc_retract {k : Nat} {u : SX} {v : SY} (I : i_Rel k u v) (hk : k + 5 ≤ 2560) : wpX_retract (fun r u' => wpY_retract (fun r' v' => r' = r ∧ i_Rel (k + 5) u' v') v) u := by
  obtain ⟨vs, n, P, K, A, Z, W, KY, nu, dr, pr, ce, rc, ky, va, kn, rfl, rfl, hw, hK, hV⟩ := I
  have h8 := hw.2.1
  have h1 := hw.1
  refine pk_eq vs 1 (fun e => pk_eq vs 1 (fun _ => ⟨rfl, vs, n, P, K, A, Z, W, KY, nu, dr, pr, ce, rc, ky, va, kn, rfl, rfl, hw, hK, hV⟩) (fun q => absurd e q)) (fun e => nm_r (e' := nI (vs - 1)) (pk_sub (b := 1) h1) (pk_eq vs 1 (fun q => absurd q e) (fun _ => nm_r (e' := nI (vs - 1)) (pk_sub (b := 1) h1) ⟨rfl, ?_⟩)))
  obtain ⟨m, rfl⟩ : ∃ m, vs = m + 1 := ⟨vs - 1, by omega⟩
  exact ⟨m, n, P, K, A, Z, W, KY, nu, dr, pr, ce, rc, ky, va, kn, rfl, rfl, tw_wf_r hw (by omega), hK, fun r hr w hw' c hc => hV r hr w (by omega) c hc⟩
theorem i_vc_columns {k : Nat} {u : SX} {v : SY} (I : i_Rel k u v) (hk : k + 5 ≤ 2560) (v1 : Int32) : wpX_columns (fun r => wpY_columns (fun r' => r' = r ∧ i_Rel (k + 5) u v) v v1) u v1 := by
  have I' : i_Rel (k + 5) u v := I
  obtain ⟨vs, n, P, K, A, Z, W, KY, nu, dr, pr, ce, rc, ky, va, kn, rfl, rfl, hw, hK, hV⟩ := I
  have h8 := hw.2.1
  have h1 := hw.1
  unfold wpX_columns
  dsimp only [tw_X]
  by_cases hv : ∃ v, v < vs ∧ v1 = nI v
  · obtain ⟨v, hv, rfl⟩ := hv
    refine tw_xV1 hv h8 ?_
    refine tw_c1 ⟨vp_in_nI (by omega) (by omega), ?_⟩
    unfold wpY_columns
    dsimp only [tw_S]
    refine tw_yV1 hv h8 ?_
    exact tw_c1 ⟨vp_in_nI (by omega) (by omega), rfl, I'⟩
  · refine tw_xV0 h8 hv ?_
    refine tw_c0 ?_
    unfold wpY_columns
    dsimp only [tw_S]
    refine tw_yV0 h1 h8 hv ?_
    exact tw_c0 ⟨rfl, I'⟩
theorem i_vc_home {k : Nat} {u : SX} {v : SY} (I : i_Rel k u v) (hk : k + 5 ≤ 2560) (v1 : Int32) : wpX_home (fun r => wpY_home (fun r' => r' = r ∧ i_Rel (k + 5) u v) v v1) u v1 := by
  have I' : i_Rel (k + 5) u v := I
  obtain ⟨vs, n, P, K, A, Z, W, KY, nu, dr, pr, ce, rc, ky, va, kn, rfl, rfl, hw, hK, hV⟩ := I
  have h8 := hw.2.1
  have h1 := hw.1
  unfold wpX_home
  dsimp only [tw_X]
  by_cases hv : ∃ v, v < vs ∧ v1 = nI v
  · obtain ⟨v, hv, rfl⟩ := hv
    refine tw_xV1 hv h8 ⟨rfl, ?_⟩
    unfold wpY_home
    dsimp only [tw_S]
    exact tw_yV1 hv h8 ⟨rfl, rfl, I'⟩
  · refine tw_xV0 h8 hv ⟨rfl, ?_⟩
    unfold wpY_home
    dsimp only [tw_S]
    exact tw_yV0 h1 h8 hv ⟨rfl, rfl, I'⟩
theorem i_vc_draft {k : Nat} {u : SX} {v : SY} (I : i_Rel k u v) (hk : k + 5 ≤ 2560) (v1 : Int32) (v2 : Int32) : wpX_draft (fun r u' => wpY_draft (fun r' v' => r' = r ∧ i_Rel (k + 5) u' v') v v1 v2) u v1 v2 := by
  obtain ⟨vs, n, P, K, A, Z, W, KY, nu, dr, pr, ce, rc, ky, va, kn, rfl, rfl, hw, hK, hV⟩ := I
  have I' : i_Rel (k + 5) (tw_X vs n P K A Z W nu dr pr ce rc) (tw_S vs n P K A Z W nu ky va dr kn) := ⟨vs, n, P, K, A, Z, W, KY, nu, dr, pr, ce, rc, ky, va, kn, rfl, rfl, hw, hK, hV⟩
  rcases tw_lt v1 (n := 5) (by omega) with ⟨j, hj, e, a1, a2, a3, a4⟩ | ⟨a, _⟩ | ⟨a, b, c, d⟩
  · subst e
    have i5 : vp_in (nI j) 5 := vp_in_nI (by omega) (by omega)
    refine br_f a1 (br_t a3 ⟨i5, nm_e ?_⟩)
    unfold wpY_draft
    dsimp only [tw_S]
    refine tw_yin1 (m := 5) hj (by omega) ?_
    exact tw_c1 ⟨i5, nm_e ⟨rfl, vs, n, P, K, A, Z, W, KY, nu, _, pr, ce, rc, ky, va, kn, rfl, rfl, hw, hK, hV⟩⟩
  · have nx : ¬ ∃ j, j < 5 ∧ v1 = nI j := by
      rintro ⟨j, hj, rfl⟩
      exact nI_pos (by omega) a
    refine br_t a ?_
    unfold wpY_draft
    dsimp only [tw_S]
    refine tw_yin0 (m := 5) (by omega) (by omega) nx ?_
    exact tw_c0 ⟨rfl, I'⟩
  · have nx : ¬ ∃ j, j < 5 ∧ v1 = nI j := by
      rintro ⟨j, hj, rfl⟩
      exact nI_ge hj (by omega) c
    refine br_f a (br_f d ?_)
    unfold wpY_draft
    dsimp only [tw_S]
    refine tw_yin0 (m := 5) (by omega) (by omega) nx ?_
    exact tw_c0 ⟨rfl, I'⟩
/-! rows, on both sides -/
section
variable {vs n : Nat} {P K A Z W KY : Nat → Nat} {nu dr pr ce rc ky va kn : Nat → Int32} {post : Int32 → Prop}
theorem tw_inj31 {a b : Nat} (ha : a < 100) (hb : b < 100) (h : nI a = nI b) : a = b := (nI_eq (by omega) (by omega)).mp h
theorem tw_fN {x : Int32} (hK : tw_keys n KY pr ky) (hx : ∀ r, r < n → x ≠ nI (KY r)) (h : post (-1)) : wpY_find post (tw_S vs n P K A Z W nu ky va dr kn) x :=
  tw_yfi hK.1 (fun _ => h) (fun r hr e => absurd (e.symm.trans (hK.2.1 r hr).1) (hx r hr))
theorem tw_fS {r : Nat} (hK : tw_keys n KY pr ky) (hr : r < n) (h : post (nI r)) : wpY_find post (tw_S vs n P K A Z W nu ky va dr kn) (nI (KY r)) := by
  refine tw_yfi hK.1 (fun q => absurd (hK.2.1 r hr).1 (q r hr)) (fun q hq e => ?_)
  have e2 : KY q = KY r := tw_inj31 (hK.2.1 q hq).2 (hK.2.1 r hr).2 ((hK.2.1 q hq).1.symm.trans e)
  rw [tw_inj hK.2.2.1 hq hr e2]; exact h
theorem tw_pr {r : Nat} (hK : tw_keys n KY pr ky) (hr : r < n) : pr (KY r) = 1 := by
  rcases hK.2.2.2 (KY r) (hK.2.1 r hr).2 with ⟨a, _⟩ | ⟨_, b⟩
  · exact a
  · exact absurd rfl (b r hr)
theorem tw_xshC {v r : Nat} (hw : tw_wf vs P K A Z W) (hK : tw_keys n KY pr ky) (hV : tw_vals vs n W KY ce va) (hv : v < vs) (hr : r < n) (h : post (tw_b (tw_ps P K A nu (tw_Y (40 * r) va) 8 v))) : wpX_isShown post (tw_X vs n P K A Z W nu dr pr ce rc) (nI v) (nI (KY r)) := by
  have e : tw_ps P K A nu (tw_V (KY r * 40) ce) 8 v = tw_ps P K A nu (tw_Y (40 * r) va) 8 v := tw_ps_c hw (fun w hw' c hc => hV r hr w hw' c hc) 8 v hv
  refine tw_xS (hK.2.1 r hr).2 hw hv (fun q => ?_) (fun _ => by rw [e]; exact h)
  rw [tw_pr hK hr] at q; exact absurd q tw_10
theorem tw_xshB {v : Nat} {y : Int32} (hw : tw_wf vs P K A Z W) (hK : tw_keys n KY pr ky) (hv : v < vs) (hy : ∀ r, r < n → y ≠ nI (KY r)) (h : post 0) : wpX_isShown post (tw_X vs n P K A Z W nu dr pr ce rc) (nI v) y := by
  by_cases hk : ∃ k, k < 100 ∧ y = nI k
  · obtain ⟨k, hk, rfl⟩ := hk
    refine tw_xS hk hw hv (fun _ => h) (fun q => ?_)
    rcases hK.2.2.2 k hk with ⟨_, r, hr, e⟩ | ⟨a, _⟩
    · exact absurd (by rw [e]) (hy r hr)
    · exact absurd a q
  · exact tw_xS0 hk h
theorem tw_yshA {x y : Int32} (h1 : 1 ≤ vs) (h8 : vs ≤ 8) (hn : n ≤ 12) (hx : ¬ ∃ v, v < vs ∧ x = nI v) (h : post 0) : wpY_shown post (tw_S vs n P K A Z W nu ky va dr kn) x y := by
  unfold wpY_shown
  dsimp only [tw_S]
  refine tw_yfi hn (fun _ => ?_) (fun _ _ _ => ?_)
  · refine tw_yV0 h1 h8 hx ?_
    exact tw_c0 h
  · refine tw_yV0 h1 h8 hx ?_
    exact tw_c0 h
theorem tw_m1 : (-1 : Int32) < 0 := by decide
theorem tw_yshB {v : Nat} {y : Int32} (h8 : vs ≤ 8) (hK : tw_keys n KY pr ky) (hv : v < vs) (hy : ∀ r, r < n → y ≠ nI (KY r)) (h : post 0) : wpY_shown post (tw_S vs n P K A Z W nu ky va dr kn) (nI v) y := by
  unfold wpY_shown
  dsimp only [tw_S]
  refine tw_fN hK hy ?_
  refine tw_yV1 hv h8 ?_
  exact tw_c1 (br_t tw_m1 h)
theorem tw_yshC {v r : Nat} (hw : tw_wf vs P K A Z W) (hK : tw_keys n KY pr ky) (hv : v < vs) (hr : r < n) (h : post (tw_b (tw_ps P K A nu (tw_Y (40 * r) va) 8 v))) : wpY_shown post (tw_S vs n P K A Z W nu ky va dr kn) (nI v) (nI (KY r)) := by
  have n12 := hK.1
  unfold wpY_shown
  dsimp only [tw_S]
  refine tw_fS hK hr ?_
  refine tw_yV1 hv hw.2.1 ?_
  refine tw_c1 (br_f (nI_pos (by omega)) ?_)
  refine tw_yps (by omega) hw hv ?_
  cases e : tw_ps P K A nu (tw_Y (40 * r) va) 8 v
  · rw [e] at h; exact tw_c0 h
  · rw [e] at h; exact tw_c1 h
end
theorem i_vc_shown {k : Nat} {u : SX} {v : SY} (I : i_Rel k u v) (hk : k + 5 ≤ 2560) (v1 : Int32) (v2 : Int32) : wpX_shown (fun r => wpY_shown (fun r' => r' = r ∧ i_Rel (k + 5) u v) v v1 v2) u v1 v2 := by
  have I' : i_Rel (k + 5) u v := I
  obtain ⟨vs, n, P, K, A, Z, W, KY, nu, dr, pr, ce, rc, ky, va, kn, rfl, rfl, hw, hK, hV⟩ := I
  have h8 := hw.2.1
  have h1 := hw.1
  unfold wpX_shown
  dsimp only [tw_X]
  by_cases hv : ∃ v, v < vs ∧ v1 = nI v
  · obtain ⟨v, hv, rfl⟩ := hv
    refine tw_xV1 hv h8 ?_
    refine tw_c1 ?_
    by_cases hy : ∃ r, r < n ∧ v2 = nI (KY r)
    · obtain ⟨r, hr, rfl⟩ := hy
      refine tw_xshC hw hK hV hv hr ?_
      cases e : tw_ps P K A nu (tw_Y (40 * r) va) 8 v
      · exact tw_c0 (tw_yshC hw hK hv hr (by rw [e]; exact ⟨rfl, I'⟩))
      · exact tw_c1 (tw_yshC hw hK hv hr (by rw [e]; exact ⟨rfl, I'⟩))
    · have ny : ∀ r, r < n → v2 ≠ nI (KY r) := fun r hr e => hy ⟨r, hr, e⟩
      refine tw_xshB hw hK hv ny ?_
      exact tw_c0 (tw_yshB h8 hK hv ny ⟨rfl, I'⟩)
  · refine tw_xV0 h8 hv ?_
    exact tw_c0 (tw_yshA h1 h8 hK.1 hv ⟨rfl, I'⟩)
