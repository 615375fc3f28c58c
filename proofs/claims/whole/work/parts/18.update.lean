/-! SchemaTwins: update -/
theorem i_vc_update {k : Nat} {u : SX} {v : SY} (I : i_Rel k u v) (hk : k + 5 ≤ 2560) (v1 : Int32) (v2 : Int32) (v3 : Int32) (v4 : Int32) : wpX_update (fun r u' => wpY_update (fun r' v' => r' = r ∧ i_Rel (k + 5) u' v') v v1 v2 v3 v4) u v1 v2 v3 v4 := by
  obtain ⟨vs, n, P, K, A, Z, W, KY, nu, dr, pr, ce, rc, ky, va, kn, rfl, rfl, hw, hK, hV⟩ := I
  have I' : i_Rel (k + 5) (tw_X vs n P K A Z W nu dr pr ce rc) (tw_S vs n P K A Z W nu ky va dr kn) := ⟨vs, n, P, K, A, Z, W, KY, nu, dr, pr, ce, rc, ky, va, kn, rfl, rfl, hw, hK, hV⟩
  have h8 := hw.2.1
  have h1 := hw.1
  have n12 := hK.1
  have hW : ∀ v, v < vs → W v ≤ 5 := fun v hv => (hw.2.2.1 v hv).2
  unfold wpX_update
  dsimp only [tw_X]
  by_cases hv : ∃ v, v < vs ∧ v1 = nI v
  · obtain ⟨v, hv, rfl⟩ := hv
    have h5 := hw.2.2.1 v hv
    have i8 : vp_in (nI v) 8 := vp_in_nI (by omega) (by omega)
    by_cases hc : ∃ c, c < W v ∧ v3 = nI c
    · obtain ⟨c, hc, rfl⟩ := hc
      refine tw_xC1 hv h8 hc (hW v hv) ?_
      refine tw_c1 ?_
      by_cases hy : ∃ k, k < 100 ∧ v2 = nI k
      · obtain ⟨y, hy, rfl⟩ := hy
        refine tw_xK1 hy ?_
        refine tw_c1 ?_
        by_cases hr : ∃ r, r < n ∧ KY r = y
        · obtain ⟨r, hr, rfl⟩ := hr
          refine tw_xshC hw hK hV hv hr ?_
          cases e : tw_ps P K A nu (tw_Y (40 * r) va) 8 v
          · refine tw_c0 ?_
            unfold wpY_update
            dsimp only [tw_S]
            refine tw_yV1 hv h8 ?_
            refine tw_c1 ?_
            refine tw_yin1 (m := 100) hy (by omega) ?_
            refine tw_c1 ⟨i8, ?_⟩
            refine tw_yC1 (by omega) hc (hW v hv) ?_
            refine tw_c1 ?_
            refine tw_fS hK hr ?_
            refine br_f (nI_pos (by omega)) ?_
            refine tw_yps (by omega) hw hv ?_
            rw [e]
            exact tw_c0 ⟨rfl, I'⟩
          · refine tw_c1 ?_
            refine tw_xcr (s := KY r) (t := 100) (by omega) (by omega) (by omega) (fun f0 C0 => ?_)
            refine tw_xcb (r := 100) ?_
            rw [nI_add]
            refine ⟨vp_in_nI (by omega) (by omega), nm_r (e' := upd f0 (100 * 40 + v * 5 + c) v4) (by rw [nI_clamp (by omega)]) ?_⟩
            refine tw_xsp (r := 100) (b := false) (by omega) hw hv (fun f2 rc2 Q1 Q2 Q3 => ?_)
            refine tw_xps (r := 100) (by omega) hw hv ?_
            have fin : ∀ g0, tw_I va (40 * 12) (fun i => va (40 * r + i)) 40 g0 → tw_fin vs v P K A Z W nu false rc2 (tw_Y (40 * 12) (upd g0 (480 + 5 * v + c) v4)) (tw_V (100 * 40) f2) := by
              intro g0 G0
              have al : ∀ w, w < vs → ∀ d, d < W w → tw_V (100 * 40) (upd f0 (100 * 40 + v * 5 + c) v4) w d = tw_Y (40 * 12) (upd g0 (480 + 5 * v + c) v4) w d := by
                intro w hw' d hd
                have w5 := hW w hw'
                show upd f0 (100 * 40 + v * 5 + c) v4 (100 * 40 + w * 5 + d) = upd g0 (480 + 5 * v + c) v4 (40 * 12 + 5 * w + d)
                by_cases q : w = v ∧ d = c
                · obtain ⟨rfl, rfl⟩ := q
                  rw [pk_us]
                  exact pk_us.symm
                · rw [pk_un (by omega), pk_un (by omega), Nat.add_assoc, C0.1 (w * 5 + d) (by omega), Nat.add_assoc, G0.1 (5 * w + d) (by omega)]
                  show ce (KY r * 40 + (w * 5 + d)) = va (40 * r + (5 * w + d))
                  rw [← Nat.add_assoc, ← Nat.add_assoc]
                  exact hV r hr w hw' d hd
              exact tw_fin_c hw hv Q2 (al v hv) (fun _ => al)
            have low : ∀ g0 g2 : Nat → Int32, tw_I va (40 * 12) (fun i => va (40 * r + i)) 40 g0 → (∀ j, j < 40 * 12 ∨ 40 * 12 + 40 ≤ j → g2 j = upd g0 (480 + 5 * v + c) v4 j) → tw_vals vs n W KY f2 g2 := by
              intro g0 g2 G0 G2 q hq w hw' d hd
              have w5 := hW w hw'
              have k100 := (hK.2.1 q hq).2
              rw [Q3 _ (by omega), pk_un (by omega), C0.2 _ (by omega), G2 _ (by omega), pk_un (by omega), G0.2 _ (by omega)]
              exact hV q hq w hw' d hd
            have yU : ∀ {post : Int32 → SY → Prop}, (∀ g0, tw_I va (40 * 12) (fun i => va (40 * r + i)) 40 g0 → wpY_carry (fun u => wpY_isShown (fun b => (b = 0 → post (-4) u) ∧ (¬ b = 0 → wpY_copy (fun u => post 1 u) u (nI r) 12)) u 12 (nI v)) (tw_S vs n P K A Z W nu ky (upd g0 (480 + 5 * v + c) v4) dr kn) 12 (nI v) 0) → wpY_update post (tw_S vs n P K A Z W nu ky va dr kn) (nI v) (nI (KY r)) (nI c) v4 := by
              intro post h
              unfold wpY_update
              dsimp only [tw_S]
              refine tw_yV1 hv h8 ?_
              refine tw_c1 ?_
              refine tw_yin1 (m := 100) hy (by omega) ?_
              refine tw_c1 ⟨i8, ?_⟩
              refine tw_yC1 (by omega) hc (hW v hv) ?_
              refine tw_c1 ?_
              refine tw_fS hK hr ?_
              refine br_f (nI_pos (by omega)) ?_
              refine tw_yps (by omega) hw hv ?_
              rw [e]
              refine tw_c1 ?_
              refine tw_ycp (s := r) (t := 12) (by omega) (by omega) (by omega) (fun g0 G0 => ?_)
              simp (disch := omega) only [tw_S, forall_eq, tw_5, tw_480, nI_add, nI_clamp, tw_in, true_and]
              exact h g0 G0
            cases e2 : tw_ps P K A nu (tw_V (100 * 40) f2) 8 v
            · refine tw_c0 (yU (fun g0 G0 => ?_))
              refine tw_yca (q := 12) (b := false) (by omega) hw hv Q1 (fin g0 G0) (fun g2 kn2 R1 R2 => ?_)
              have e0 : tw_ps P K A nu (tw_Y (40 * 12) g2) 8 v = false := (tw_ps_c hw R1 8 v hv).trans e2
              refine tw_yps (r := 12) (by omega) hw hv ?_
              rw [e0]
              exact tw_c0 ⟨rfl, vs, n, P, K, A, Z, W, KY, nu, dr, pr, f2, rc2, ky, g2, kn2, rfl, rfl, hw, hK, low g0 g2 G0 R2⟩
            · refine tw_c1 ?_
              refine tw_xcr (s := 100) (t := KY r) (by omega) (by omega) (by omega) (fun f3 C3 => ?_)
              refine yU (fun g0 G0 => ?_)
              refine tw_yca (q := 12) (b := false) (by omega) hw hv Q1 (fin g0 G0) (fun g2 kn2 R1 R2 => ?_)
              have e0 : tw_ps P K A nu (tw_Y (40 * 12) g2) 8 v = true := (tw_ps_c hw R1 8 v hv).trans e2
              refine tw_yps (r := 12) (by omega) hw hv ?_
              rw [e0]
              refine tw_c1 ?_
              refine tw_ycp (s := 12) (t := r) (by omega) (by omega) (by omega) (fun g3 D3 => ?_)
              refine ⟨rfl, vs, n, P, K, A, Z, W, KY, nu, dr, pr, f3, rc2, ky, g3, kn2, rfl, rfl, hw, hK, ?_⟩
              exact tw_vals_u (B := 100 * 40) (D := 40 * 12) (low g0 g2 G0 R2) h8 hW hK.2.2.1 (fun q hq => (hK.2.1 q hq).2) hr (fun i hi => C3.1 i hi) (fun q q1 q2 i hi => C3.2 _ (by omega)) (fun q q1 q2 i hi => D3.2 _ (by omega)) (fun i hi => D3.1 i hi) n12 (fun w hw' d hd => (R1 w hw' d hd).symm)
        · have ny : ∀ q, q < n → KY q ≠ y := fun q hq e => hr ⟨q, hq, e⟩
          refine tw_xshB hw hK hv (tw_nk hK hy ny) ?_
          refine tw_c0 ?_
          unfold wpY_update
          dsimp only [tw_S]
          refine tw_yV1 hv h8 ?_
          refine tw_c1 ?_
          refine tw_yin1 (m := 100) hy (by omega) ?_
          refine tw_c1 ⟨i8, ?_⟩
          refine tw_yC1 (by omega) hc (hW v hv) ?_
          refine tw_c1 ?_
          refine tw_fN hK (tw_nk hK hy ny) ?_
          exact br_t tw_m1 ⟨rfl, I'⟩
      · refine tw_xK0 hy ?_
        refine tw_c0 ?_
        unfold wpY_update
        dsimp only [tw_S]
        refine tw_yV1 hv h8 ?_
        refine tw_c1 ?_
        refine tw_yin0 (m := 100) (by omega) (by omega) hy ?_
        exact tw_c0 ⟨rfl, I'⟩
    · have nc : ¬ ∃ w, w < vs ∧ nI v = nI w ∧ ∃ c, c < W w ∧ v3 = nI c := by
        rintro ⟨w, hw', e, h⟩
        rw [(nI_eq (by omega) (by omega)).mp e] at hc
        exact hc h
      refine tw_xC0 h8 hW nc ?_
      refine tw_c0 ?_
      unfold wpY_update
      dsimp only [tw_S]
      refine tw_yV1 hv h8 ?_
      refine tw_c1 ?_
      by_cases hy : ∃ k, k < 100 ∧ v2 = nI k
      · obtain ⟨y, hy, rfl⟩ := hy
        refine tw_yin1 (m := 100) hy (by omega) ?_
        refine tw_c1 ⟨i8, ?_⟩
        refine tw_yC0 (by omega) h5.1 h5.2 hc ?_
        exact tw_c0 ⟨rfl, I'⟩
      · refine tw_yin0 (m := 100) (by omega) (by omega) hy ?_
        exact tw_c0 ⟨rfl, I'⟩
  · have nc : ¬ ∃ w, w < vs ∧ v1 = nI w ∧ ∃ c, c < W w ∧ v3 = nI c := fun ⟨w, hw', e, _⟩ => hv ⟨w, hw', e⟩
    refine tw_xC0 h8 hW nc ?_
    refine tw_c0 ?_
    unfold wpY_update
    dsimp only [tw_S]
    refine tw_yV0 h1 h8 hv ?_
    exact tw_c0 ⟨rfl, I'⟩
