/-! SchemaTwins: edit -/
section
variable {vs n : Nat} {P K A Z W KY : Nat → Nat} {nu dr pr ce rc ky va kn : Nat → Int32} {post : Int32 → SY → Prop}
/-- the reference's edit, refused or not, by the same numbers -/
theorem tw_ye93 {v kd x z : Nat} {y : Int32} (hk : kd < 8) (hx : x < 8) (hz : z < 8) (hv : v < 8) (h1 : 1 ≤ W v) (h5 : W v ≤ 5) (hs : vs < 8)
    (hb : kd = 5 → x = z → post (-1) (tw_S vs n P K A Z W nu ky va dr kn)) (hf : (kd = 5 → x ≠ z) → ¬ (1 ≤ tw_wd kd (W v) ∧ tw_wd kd (W v) ≤ 5) → post (-2) (tw_S vs n P K A Z W nu ky va dr kn))
    (hg : (kd = 5 → x ≠ z) → 1 ≤ tw_wd kd (W v) → tw_wd kd (W v) ≤ 5 → ∃ d, wY_edit_218 post d 0 (nI vs) (nI n) (tw_f (tw_un P vs v)) (tw_f (tw_un K vs kd)) (tw_f (tw_un A vs x)) (tw_f (tw_un Z vs z)) (upd nu vs y) (tw_f (tw_un W vs (tw_wd kd (W v)))) ky va dr kn) :
    wY_edit_93 post (nI v) y (nI kd) (nI x) (nI z) (nI vs) (nI n) (tw_f P) (tw_f K) (tw_f A) (tw_f Z) nu (tw_f W) ky va dr kn := by
  have c : (nI v).toNatClampNeg = v := nI_clamp (by omega)
  have i8 : vp_in (nI v) 8 := vp_in_nI (by omega) (by omega)
  have h134 : (kd = 5 → x ≠ z) → ∀ r, nI (W v) + r = nI (tw_wd kd (W v)) → wY_edit_134 post (nI v) y (nI kd) (nI x) (nI z) r (nI (W v)) (nI vs) (nI n) (tw_f P) (tw_f K) (tw_f A) (tw_f Z) nu (tw_f W) ky va dr kn := by
    intro ne r er
    have wl : tw_wd kd (W v) < 8 := by unfold tw_wd; split <;> (try split) <;> omega
    refine nm_r er ?_
    refine pk_lt (tw_wd kd (W v)) 1 (fun g => tw_c0 (hf ne (by omega))) (fun g => pk_lt 5 (tw_wd kd (W v)) (fun g' => tw_c0 (hf ne (by omega))) (fun g' => tw_c1 ?_))
    simp (disch := omega) only [forall_eq, nI_clamp, tw_in, true_and, tw_f_u]
    exact hg ne g g'
  have h108 : (kd = 5 → x ≠ z) → wY_edit_108 post (nI v) y (nI kd) (nI x) (nI z) (nI vs) (nI n) (tw_f P) (tw_f K) (tw_f A) (tw_f Z) nu (tw_f W) ky va dr kn := by
    intro ne
    refine ⟨i8, ?_⟩
    rw [c]
    exact pk_eq kd 0 (fun e => h134 ne _ (tw_wd0 e)) (fun e => pk_eq kd 1 (fun e1 => h134 ne _ (tw_wd1 h1 e e1)) (fun e1 => h134 ne _ (tw_wd2 e e1)))
  exact pk_eq kd 5 (fun e => pk_eq x z (fun e2 => hb e e2) (fun e2 => h108 (fun _ => e2))) (fun e => h108 (fun q => absurd q e))
end
theorem i_vc_edit {k : Nat} {u : SX} {v : SY} (I : i_Rel k u v) (hk : k + 5 ≤ 2560) (v1 : Int32) (v2 : Int32) (v3 : Int32) : wpX_edit (fun r u' => wpY_edit (fun r' v' => r' = r ∧ i_Rel (k + 5) u' v') v v1 v2 v3) u v1 v2 v3 := by
  obtain ⟨vs, n, P, K, A, Z, W, KY, nu, dr, pr, ce, rc, ky, va, kn, rfl, rfl, hw, hK, hV⟩ := I
  have I' : i_Rel (k + 5) (tw_X vs n P K A Z W nu dr pr ce rc) (tw_S vs n P K A Z W nu ky va dr kn) := ⟨vs, n, P, K, A, Z, W, KY, nu, dr, pr, ce, rc, ky, va, kn, rfl, rfl, hw, hK, hV⟩
  have h8 := hw.2.1
  have h1 := hw.1
  have n12 := hK.1
  unfold wpX_edit
  dsimp only [tw_X]
  by_cases hv : ∃ v, v < vs ∧ v1 = nI v
  · obtain ⟨v, hv, rfl⟩ := hv
    have hW := hw.2.2.1 v hv
    have yV : ∀ {post : Int32 → Prop}, post 1 → wpY_isVersion post (tw_S vs n P K A Z W nu ky va dr kn) (nI v) := fun h => tw_yV1 hv h8 h
    refine tw_xV1 hv h8 ?_
    refine tw_c1 ?_
    rcases tw_lt v2 (n := 512) (by omega) with ⟨m, hm, rfl, a1, a2, a3, a4⟩ | ⟨a, _⟩ | ⟨a, b, c, d⟩
    · refine br_f a1 (br_t (nI_le (b := 511) (by omega) (by omega)) ?_)
      refine pk_eq vs 8 (fun e8 => ?_) (fun e8 => ?_)
      · unfold wpY_edit
        dsimp only [tw_S]
        refine yV ?_
        refine tw_c1 ?_
        refine tw_yin1 (m := 512) hm (by omega) ?_
        exact tw_c1 (pk_eq vs 8 (fun _ => ⟨rfl, I'⟩) (fun q => absurd e8 q))
      · have hkd : m % 8 < 8 := Nat.mod_lt _ (by decide)
        have hx : m / 8 % 8 < 8 := Nat.mod_lt _ (by decide)
        have hz : m / 64 < 8 := by omega
        refine nm_r (tw_w0 (by omega)) (nm_r (tw_w3 (by omega)) (nm_r (tw_w7 (by omega)) ?_))
        generalize ekd : m % 8 = kd at hkd
        generalize ex : m / 8 % 8 = x at hx
        generalize ez : m / 64 = z at hz
        have yE : ∀ {post : Int32 → SY → Prop}, (pw : 5 < kd → post (-1) (tw_S vs n P K A Z W nu ky va dr kn)) → (px : kd ≤ 5 → kd ≠ 0 → W v ≤ x → post (-1) (tw_S vs n P K A Z W nu ky va dr kn)) → (pz : kd ≤ 5 → 4 ≤ kd → W v ≤ z → post (-1) (tw_S vs n P K A Z W nu ky va dr kn)) →
            (pe : kd ≤ 5 → (kd ≠ 0 → x < W v) → (4 ≤ kd → z < W v) → wY_edit_93 post (nI v) v3 (nI kd) (nI x) (nI z) (nI vs) (nI n) (tw_f P) (tw_f K) (tw_f A) (tw_f Z) nu (tw_f W) ky va dr kn) → wpY_edit post (tw_S vs n P K A Z W nu ky va dr kn) (nI v) (nI m) v3 := by
          intro post pw px pz pe
          have c : (nI v).toNatClampNeg = v := nI_clamp (by omega)
          have i8 : vp_in (nI v) 8 := vp_in_nI (by omega) (by omega)
          unfold wpY_edit
          dsimp only [tw_S]
          refine yV ?_
          refine tw_c1 ?_
          refine tw_yin1 (m := 512) hm (by omega) ?_
          refine tw_c1 (pk_eq vs 8 (fun q => absurd q e8) (fun _ => ?_))
          refine nm_r (tw_w0 (by omega)) (nm_r (tw_w3 (by omega)) (nm_r (tw_w6 (by omega)) ?_))
          rw [ekd, ex, ez]
          have h76 : kd ≤ 5 → (kd ≠ 0 → x < W v) → wY_edit_76 post (nI v) v3 (nI kd) (nI x) (nI z) (nI vs) (nI n) (tw_f P) (tw_f K) (tw_f A) (tw_f Z) nu (tw_f W) ky va dr kn := by
            intro k5 kx
            refine pk_lt kd 4 (fun g => pe k5 kx (by omega)) (fun g => ⟨i8, ?_⟩)
            rw [c]
            exact pk_le (W v) z (fun g' => pz k5 g g') (fun g' => pe k5 kx (fun _ => g'))
          refine pk_lt 5 kd (fun g => pw g) (fun g => pk_eq kd 0 (fun e => h76 g (fun q => absurd e q)) (fun e => ⟨i8, ?_⟩))
          rw [c]
          exact pk_le (W v) x (fun g' => px g e g') (fun g' => h76 g (fun _ => g'))
        refine tw_xef (by omega) hW.2 hkd hx hz (fun k5 kx kz kq => ?_) (fun nf => ?_)
        · refine tw_c1 ⟨vp_in_nI (by omega) (by omega), ?_⟩
          refine tw_xwd (w := W v) hkd hW.1 (fun r er => ?_)
          have wl : tw_wd kd (W v) < 8 := by unfold tw_wd; split <;> (try split) <;> omega
          refine nm_r (e' := nI (tw_wd kd (W v))) (by rw [nI_clamp (by omega)]; exact er) ?_
          have full : ¬ (1 ≤ tw_wd kd (W v) ∧ tw_wd kd (W v) ≤ 5) → wpY_edit (fun r' v' => r' = -2 ∧ i_Rel (k + 5) (tw_X vs n P K A Z W nu dr pr ce rc) v') (tw_S vs n P K A Z W nu ky va dr kn) (nI v) (nI m) v3 := by
            intro ng
            refine yE (fun q => absurd q (by omega)) (fun _ q1 q2 => absurd (kx q1) (by omega)) (fun _ q1 q2 => absurd (kz q1) (by omega)) (fun _ _ _ => ?_)
            refine tw_ye93 hkd hx hz (by omega) hW.1 hW.2 (by omega) (fun e1 e2 => absurd e2 (kq e1)) (fun _ _ => ⟨rfl, I'⟩) (fun _ q1 q2 => absurd ⟨q1, q2⟩ ng)
          refine pk_lt (tw_wd kd (W v)) 1 (fun g => full (by omega)) (fun g => pk_le (tw_wd kd (W v)) 5 (fun g' => ?_) (fun g' => full (by omega)))
          have ok := tw_wdok hx hz hW k5 kx kz kq g g'
          have hw2 := tw_wf_e hw (by omega) hv ok
          have hq := hw2.2.2.2 vs (by omega) (by omega)
          simp (disch := omega) only [forall_eq, nI_clamp, tw_in, true_and, tw_f_u, nI_1]
          refine tw_xfv (w := vs) (by omega) hq.1 hq.2 (fun f' FL => ?_)
          refine yE (fun q => absurd q (by omega)) (fun _ q1 q2 => absurd (kx q1) (by omega)) (fun _ q1 q2 => absurd (kz q1) (by omega)) (fun _ _ _ => ?_)
          refine tw_ye93 hkd hx hz (by omega) hW.1 hW.2 (by omega) (fun e1 e2 => absurd e2 (kq e1)) (fun _ q => absurd ⟨g, g'⟩ q) (fun _ _ _ => ⟨n + 1, ?_⟩)
          refine tw_yel (w := vs) (by omega) n12 hq.1 hq.2 (fun fy GL => ?_) n 0 va (by omega) ⟨fun k h => absurd h (Nat.not_lt_zero _), fun _ _ _ _ => rfl, fun _ _ _ _ _ _ => rfl⟩
          refine ⟨rfl, vs + 1, n, tw_un P vs v, tw_un K vs kd, tw_un A vs x, tw_un Z vs z, tw_un W vs (tw_wd kd (W v)), KY, upd nu vs v3, dr, pr, f', rc, ky, fy, kn, rfl, rfl, hw2, hK, ?_⟩
          refine tw_vals_e (y := v3) hV (by omega) hv (fun w hw' => (hw.2.2.1 w hw').2) ok (fun r hr c hc => ?_) (fun r hr w hw' c hc => ?_) (fun r hr c hc => ?_) (fun r hr w hw' c hc => ?_)
          · have := FL.1 (KY r) (hK.2.1 r hr).2 (by rw [tw_pr hK hr]; exact tw_10) c (by rw [tw_un_s]; exact hc)
            simp only [tw_un_s, pk_us] at this
            exact this
          · exact FL.2.2 (KY r) w (by omega) (by omega) c hc
          · have := GL.1 r hr c (by rw [tw_un_s]; exact hc)
            simp only [tw_un_s, pk_us] at this
            exact this
          · exact GL.2.2 r w (by omega) (by omega) c hc
        · refine tw_c0 ?_
          refine yE (fun _ => ⟨rfl, I'⟩) (fun _ _ _ => ⟨rfl, I'⟩) (fun _ _ _ => ⟨rfl, I'⟩) (fun k5 kx kz => ?_)
          refine tw_ye93 hkd hx hz (by omega) hW.1 hW.2 (by omega) (fun e1 e2 => ⟨rfl, I'⟩) (fun q _ => absurd ⟨k5, kx, kz, q⟩ nf) (fun q _ _ => absurd ⟨k5, kx, kz, q⟩ nf)
    · have nx : ¬ ∃ j, j < 512 ∧ v2 = nI j := by
        rintro ⟨j, hj, rfl⟩
        exact nI_pos (by omega) a
      refine br_t a ?_
      unfold wpY_edit
      dsimp only [tw_S]
      refine yV ?_
      refine tw_c1 ?_
      refine tw_yin0 (m := 512) (by omega) (by omega) nx ?_
      exact tw_c0 ⟨rfl, I'⟩
    · have nx : ¬ ∃ j, j < 512 ∧ v2 = nI j := by
        rintro ⟨j, hj, rfl⟩
        exact nI_ge hj (by omega) c
      have ng : ¬ v2 ≤ 511 := fun q => absurd (Int32.lt_of_lt_of_le (nI_lt (a := 511) (b := 512) (by omega) (by omega)) c) (Int32.not_lt.mpr q)
      refine br_f a (br_f ng ?_)
      unfold wpY_edit
      dsimp only [tw_S]
      refine yV ?_
      refine tw_c1 ?_
      refine tw_yin0 (m := 512) (by omega) (by omega) nx ?_
      exact tw_c0 ⟨rfl, I'⟩
  · refine tw_xV0 h8 hv ?_
    refine tw_c0 ?_
    unfold wpY_edit
    dsimp only [tw_S]
    refine tw_yV0 h1 h8 hv ?_
    exact tw_c0 ⟨rfl, I'⟩
