/-! SchemaTwins: insert -/
section
variable {vs n : Nat} {P K A Z W KY : Nat → Nat} {nu dr pr ce rc ky va kn : Nat → Int32}
theorem tw_xins {post : Int32 → SX → Prop} {v key : Nat} (hw : tw_wf vs P K A Z W) (hv : v < vs) (hk : key < 100)
    (h0 : ∀ f f2 rc2, tw_I ce (100 * 40 + v * 5) dr (W v) f → tw_path vs v P rc2 → tw_fin vs v P K A Z W nu true rc2 (tw_V (100 * 40) f) (tw_V (100 * 40) f2) → (∀ j, j < 100 * 40 ∨ 100 * 40 + 40 ≤ j → f2 j = f j) → tw_ps P K A nu (tw_V (100 * 40) f2) 8 v = false → post (-4) (tw_X vs n P K A Z W nu dr pr f2 rc2))
    (h1 : ∀ f f2 rc2, tw_I ce (100 * 40 + v * 5) dr (W v) f → tw_path vs v P rc2 → tw_fin vs v P K A Z W nu true rc2 (tw_V (100 * 40) f) (tw_V (100 * 40) f2) → (∀ j, j < 100 * 40 ∨ 100 * 40 + 40 ≤ j → f2 j = f j) → tw_ps P K A nu (tw_V (100 * 40) f2) 8 v = true → ∀ f3, tw_I f2 (key * 40) (fun i => f2 (100 * 40 + i)) 40 f3 → post (nI (n + 1)) (tw_X vs (n + 1) P K A Z W nu dr (upd pr key 1) f3 rc2)) :
    ∀ d i f, i + d = W v → tw_I ce (100 * 40 + v * 5) dr i f → wX_insert_53 post (nI v) (nI key) (nI (100 * 40 + v * 5)) (nI vs) (nI n) (d + 1) (nI i) (tw_f P) (tw_f K) (tw_f A) (tw_f Z) nu (tw_f W) dr pr f rc := by
  have h8 := hw.2.1
  have h5 := (hw.2.2.1 v hv).2
  have c : (nI v).toNatClampNeg = v := nI_clamp (by omega)
  have i8 : vp_in (nI v) 8 := vp_in_nI (by omega) (by omega)
  intro d
  induction d with
  | zero =>
    intro i f hi I
    have ei : i = W v := by omega
    subst ei
    refine ⟨i8, ?_⟩
    rw [c]
    refine br_t (Int32.le_refl _) ?_
    refine tw_xsp (r := 100) (b := true) (by omega) hw hv (fun f2 rc2 Q1 Q2 Q3 => ?_)
    refine tw_xps (r := 100) (by omega) hw hv ?_
    cases e : tw_ps P K A nu (tw_V (100 * 40) f2) 8 v
    · exact tw_c0 (h0 f f2 rc2 I Q1 Q2 Q3 e)
    · refine tw_c1 ?_
      refine tw_xcr (s := 100) (t := key) (by omega) (by omega) (by omega) (fun f3 C => ?_)
      refine ⟨vp_in_nI hk (by omega), nm_r (e' := upd pr key 1) (by rw [nI_clamp (by omega), tw_b1]) (nm_r (nI_1 n) ?_)⟩
      exact h1 f f2 rc2 I Q1 Q2 Q3 e f3 C
  | succ d ih =>
    intro i f hi I
    refine ⟨i8, ?_⟩
    rw [c]
    refine br_f (nI_ge (by omega) (by omega)) ?_
    simp (disch := omega) only [forall_eq, nI_add, nI_clamp, tw_in, true_and, nI_1]
    exact ih (i + 1) _ (by omega) (tw_I_s I rfl)
theorem tw_yi106 {post : Int32 → SY → Prop} {key : Nat} (hK : tw_keys n KY pr ky) (hn : n < 12) (hk : key < 100) (hne : ∀ r, r < n → KY r ≠ key)
    (hp : ∀ a ky' va', tw_sh n key KY ky va a ky' va' → (∀ r, r < a → KY r < key) → ∀ va2, tw_I va' (40 * a) (fun i => va' (40 * 12 + i)) 40 va2 → post (nI (n + 1)) (tw_S vs (n + 1) P K A Z W nu (upd ky' a (nI key)) va2 dr kn)) :
    ∀ d k a ky' va', k + d = 12 → (a + k = n ∨ a = 0 ∨ KY (a - 1) < key) → tw_sh n key KY ky va a ky' va' → wY_insert_106 post (nI key) (d + 1) (nI a) (nI k) (nI vs) (nI n) (tw_f P) (tw_f K) (tw_f A) (tw_f Z) nu (tw_f W) ky' va' dr kn := by
  intro d
  induction d with
  | zero =>
    intro k a ky' va' hkd st S
    have an := S.1
    refine br_t (nI_le (a := 12) (by omega) (by omega)) ⟨vp_in_nI (by omega) (by omega), nm_r (e' := upd ky' a (nI key)) (by rw [nI_clamp (by omega)]) ?_⟩
    refine tw_ycp (s := 12) (t := a) (by omega) (by omega) (by omega) (fun f' C => ?_)
    refine nm_r (nI_1 n) (hp a ky' va' S (fun r hr => ?_) f' C)
    have st' : KY (a - 1) < key := by omega
    by_cases e : r = a - 1
    · rw [e]; exact st'
    · have := hK.2.2.1 r (a - 1) (by omega) (by omega); omega
  | succ d ih =>
    intro k a ky' va' hkd st S
    have an := S.1
    refine br_f (nI_ge (b := 12) (by omega) (by omega)) ?_
    by_cases a0 : a = 0
    · subst a0
      exact br_t (Int32.le_refl _) (nm_r (nI_1 k) (ih (k + 1) 0 ky' va' (by omega) (by omega) S))
    · obtain ⟨b, rfl⟩ : ∃ b, a = b + 1 := ⟨a - 1, by omega⟩
      have kb := hK.2.1 b (by omega)
      have eb : ky' b = nI (KY b) := ((S.2.2.1 b (by omega)).1).trans kb.1
      have e1 : nI (b + 1) - 1 = nI b := nI_pred b
      have cb : (nI b).toNatClampNeg = b := nI_clamp (by omega)
      refine br_f (nI_nle (by omega) (by omega)) ?_
      rw [e1]
      refine ⟨vp_in_nI (by omega) (by omega), ?_⟩
      rw [cb, eb]
      refine pk_le (KY b) key (fun g => nm_r (nI_1 k) (ih (k + 1) (b + 1) ky' va' (by omega) ?_ S)) (fun g => ?_)
      · have := hne b (by omega)
        right; right
        show KY b < key
        omega
      · refine ⟨vp_in_nI (by omega) (by omega), vp_in_nI (by omega) (by omega), nm_r (e' := upd ky' (b + 1) (ky' b)) (by rw [nI_clamp (by omega), eb]) ?_⟩
        refine tw_ycp (s := b) (t := b + 1) (by omega) (by omega) (by omega) (fun f' C => ?_)
        refine nm_r (pk_m1 b) (nm_r (nI_1 k) ?_)
        refine ih (k + 1) b _ f' (by omega) ?_ (tw_sh_s S hn g C)
        rcases st with q | q | q
        · left; omega
        · omega
        · exact absurd (show KY b < key from q) (by omega)
theorem tw_yins {post : Int32 → SY → Prop} {v key : Nat} {rc2 : Nat → Int32} {R : Nat → Nat → Int32} (hw : tw_wf vs P K A Z W) (hK : tw_keys n KY pr ky) (hn : n < 12) (hv : v < vs) (hk : key < 100) (hne : ∀ r, r < n → KY r ≠ key)
    (hpa : tw_path vs v P rc2) (hf : ∀ g, tw_I va (40 * 12 + 5 * v) dr 5 g → tw_fin vs v P K A Z W nu true rc2 (tw_Y (40 * 12) g) R)
    (h0 : tw_ps P K A nu R 8 v = false → ∀ g2 kn2, (∀ j, j < 40 * 12 → g2 j = va j) → post (-4) (tw_S vs n P K A Z W nu ky g2 dr kn2))
    (h1 : tw_ps P K A nu R 8 v = true → ∀ g2 kn2, (∀ w, w < vs → ∀ c, c < W w → tw_Y (40 * 12) g2 w c = R w c) → (∀ j, j < 40 * 12 → g2 j = va j) → ∀ a ky' va', tw_sh n key KY ky g2 a ky' va' → (∀ r, r < a → KY r < key) → ∀ va2, tw_I va' (40 * a) (fun i => va' (40 * 12 + i)) 40 va2 → post (nI (n + 1)) (tw_S vs (n + 1) P K A Z W nu (upd ky' a (nI key)) va2 dr kn2)) :
    ∀ d i g, i + d = 5 → tw_I va (40 * 12 + 5 * v) dr i g → wY_insert_46 post (nI v) (nI key) (nI vs) (nI n) (d + 1) (nI i) (tw_f P) (tw_f K) (tw_f A) (tw_f Z) nu (tw_f W) ky g dr kn := by
  have h8 := hw.2.1
  intro d
  induction d with
  | zero =>
    intro i g hi I
    have ei : i = 5 := by omega
    subst ei
    refine br_t (Int32.le_refl _) ?_
    refine tw_yca (q := 12) (b := true) (by omega) hw hv hpa (hf g I) (fun g2 kn2 Q1 Q2 => ?_)
    have fr : ∀ j, j < 40 * 12 → g2 j = va j := fun j hj => (Q2 j (Or.inl hj)).trans (I.2 j (by omega))
    have e0 : tw_ps P K A nu (tw_Y (40 * 12) g2) 8 v = tw_ps P K A nu R 8 v := tw_ps_c hw Q1 8 v hv
    refine tw_yps (r := 12) (by omega) hw hv ?_
    rw [e0]
    cases e : tw_ps P K A nu R 8 v
    · exact tw_c0 (h0 e g2 kn2 fr)
    · refine tw_c1 ⟨13, ?_⟩
      exact tw_yi106 hK hn hk hne (h1 e g2 kn2 Q1 fr) 12 0 n ky g2 rfl (by omega) tw_sh_0
  | succ d ih =>
    intro i g hi I
    refine br_f (nI_ge (b := 5) (by omega) (by omega)) ?_
    simp (disch := omega) only [forall_eq, tw_5, tw_480, nI_add, nI_clamp, tw_in, true_and, nI_1]
    exact ih (i + 1) _ (by omega) (tw_I_s I rfl)
end
theorem i_vc_insert {k : Nat} {u : SX} {v : SY} (I : i_Rel k u v) (hk : k + 5 ≤ 2560) (v1 : Int32) (v2 : Int32) : wpX_insert (fun r u' => wpY_insert (fun r' v' => r' = r ∧ i_Rel (k + 5) u' v') v v1 v2) u v1 v2 := by
  obtain ⟨vs, n, P, K, A, Z, W, KY, nu, dr, pr, ce, rc, ky, va, kn, rfl, rfl, hw, hK, hV⟩ := I
  have I' : i_Rel (k + 5) (tw_X vs n P K A Z W nu dr pr ce rc) (tw_S vs n P K A Z W nu ky va dr kn) := ⟨vs, n, P, K, A, Z, W, KY, nu, dr, pr, ce, rc, ky, va, kn, rfl, rfl, hw, hK, hV⟩
  have h8 := hw.2.1
  have h1 := hw.1
  have n12 := hK.1
  unfold wpX_insert
  dsimp only [tw_X]
  by_cases hv : ∃ v, v < vs ∧ v1 = nI v
  · obtain ⟨v, hv, rfl⟩ := hv
    refine tw_xV1 hv h8 ?_
    refine tw_c1 ?_
    by_cases hy : ∃ k, k < 100 ∧ v2 = nI k
    · obtain ⟨y, hy, rfl⟩ := hy
      have h5 := hw.2.2.1 v hv
      have yI : ∀ {post : Int32 → SY → Prop}, (∀ r, r < n → KY r = y → post (-3) (tw_S vs n P K A Z W nu ky va dr kn)) → ((∀ r, r < n → KY r ≠ y) → n = 12 → post (-2) (tw_S vs n P K A Z W nu ky va dr kn)) → ((∀ r, r < n → KY r ≠ y) → n ≠ 12 → ∃ d, wY_insert_46 post (nI v) (nI y) (nI vs) (nI n) d 0 (tw_f P) (tw_f K) (tw_f A) (tw_f Z) nu (tw_f W) ky va dr kn) → wpY_insert post (tw_S vs n P K A Z W nu ky va dr kn) (nI v) (nI y) := by
        intro post p3 p2 pi
        unfold wpY_insert
        dsimp only [tw_S]
        refine tw_yV1 hv h8 ?_
        refine tw_c1 ?_
        refine tw_yin1 (m := 100) hy (by omega) ?_
        refine tw_c1 ?_
        by_cases hr : ∃ r, r < n ∧ KY r = y
        · obtain ⟨r, hr, rfl⟩ := hr
          refine tw_fS hK hr ?_
          exact br_f (nI_pos (by omega)) (p3 r hr rfl)
        · have ny : ∀ q, q < n → KY q ≠ y := fun q hq e => hr ⟨q, hq, e⟩
          refine tw_fN hK (tw_nk hK hy ny) ?_
          exact br_t tw_m1 (pk_eq n 12 (fun e => p2 ny e) (fun e => pi ny e))
      refine tw_xK1 hy ?_
      refine tw_c1 ⟨vp_in_nI hy (by omega), ?_⟩
      rw [nI_clamp (by omega)]
      rcases hK.2.2.2 y hy with ⟨q1, r, hr, er⟩ | ⟨q1, ny⟩
      · refine br_f (by rw [q1]; exact tw_10) ?_
        exact yI (fun _ _ _ => ⟨rfl, I'⟩) (fun q _ => absurd er (q r hr)) (fun q _ => absurd er (q r hr))
      · refine br_t q1 ?_
        refine pk_eq n 12 (fun e12 => ?_) (fun e12 => ?_)
        · exact yI (fun r hr e => absurd e (ny r hr)) (fun _ _ => ⟨rfl, I'⟩) (fun _ q => absurd e12 q)
        · refine tw_xcb (r := 100) ⟨W v + 1, ?_⟩
          have fin : ∀ {f f2 rc2}, tw_I ce (100 * 40 + v * 5) dr (W v) f → tw_fin vs v P K A Z W nu true rc2 (tw_V (100 * 40) f) (tw_V (100 * 40) f2) → ∀ g, tw_I va (40 * 12 + 5 * v) dr 5 g → tw_fin vs v P K A Z W nu true rc2 (tw_Y (40 * 12) g) (tw_V (100 * 40) f2) := by
            intro f f2 rc2 F1 F2 g G
            refine tw_fin_c hw hv F2 (fun c hc => ?_) (fun q => absurd q (by decide))
            exact (F1.1 c hc).trans (G.1 c (by omega)).symm
          have low : ∀ {f f2 g2 : Nat → Int32}, tw_I ce (100 * 40 + v * 5) dr (W v) f → (∀ j, j < 100 * 40 ∨ 100 * 40 + 40 ≤ j → f2 j = f j) → (∀ j, j < 40 * 12 → g2 j = va j) → tw_vals vs n W KY f2 g2 := by
            intro f f2 g2 F1 F2 G r hr w hw' c hc
            have w5 := (hw.2.2.1 w hw').2
            have k100 := (hK.2.1 r hr).2
            rw [F2 _ (by omega), F1.2 _ (by omega), G _ (by omega)]
            exact hV r hr w hw' c hc
          refine tw_xins hw hv hy (fun f f2 rc2 F1 F2 F3 F4 e => ?_) (fun f f2 rc2 F1 F2 F3 F4 e f3 C => ?_) (W v) 0 ce (by omega) tw_I_0
          · refine yI (fun r hr e => absurd e (ny r hr)) (fun _ q => absurd q e12) (fun _ _ => ⟨6, ?_⟩)
            refine tw_yins hw hK (by omega) hv hy ny F2 (fin F1 F3) (fun _ g2 kn2 G => ?_) (fun q => absurd (e.symm.trans q) (by decide)) 5 0 va rfl tw_I_0
            exact ⟨rfl, vs, n, P, K, A, Z, W, KY, nu, dr, pr, f2, rc2, ky, g2, kn2, rfl, rfl, hw, hK, low F1 F4 G⟩
          · refine yI (fun r hr e => absurd e (ny r hr)) (fun _ q => absurd q e12) (fun _ _ => ⟨6, ?_⟩)
            refine tw_yins hw hK (by omega) hv hy ny F2 (fin F1 F3) (fun q => absurd (e.symm.trans q) (by decide)) (fun _ g2 kn2 G0 G a ky' va' S lo va2 D => ?_) 5 0 va rfl tw_I_0
            have lw := low F1 F4 G
            obtain ⟨s1, s2, s3, s4, s5⟩ := S
            refine ⟨rfl, vs, n + 1, P, K, A, Z, W, tw_ki KY a y, nu, dr, upd pr y 1, f3, rc2, upd ky' a (nI y), va2, kn2, rfl, rfl, hw, ?_, ?_⟩
            · refine tw_keys_i hK (by omega) hy s1 lo s2 (fun r hr => ?_) pk_us (fun r q1 q2 => ?_)
              · rw [pk_un (by omega)]; exact (s3 r hr).1
              · rw [pk_un (by omega)]; exact (s4 r q1 q2).1
            · refine tw_vals_i (B := 100 * 40) (D := 40 * 12) lw h8 (fun w hw' => (hw.2.2.1 w hw').2) s1 ny (fun i hi => C.1 i hi) (fun q q1 q2 i hi => C.2 _ (by omega)) (fun r hr => (hK.2.1 r hr).2) (fun r hr i hi => ?_) (fun i hi => ?_) (fun r q1 q2 i hi => ?_) (fun w hw' c hc => (G0 w hw' c hc).symm)
              · rw [D.2 _ (by omega)]; exact (s3 r hr).2 i hi
              · exact (D.1 i hi).trans (s5 i hi)
              · rw [D.2 _ (by omega)]; exact (s4 r q1 q2).2 i hi
    · refine tw_xK0 hy ?_
      refine tw_c0 ?_
      unfold wpY_insert
      dsimp only [tw_S]
      refine tw_yV1 hv h8 ?_
      refine tw_c1 ?_
      refine tw_yin0 (m := 100) (by omega) (by omega) hy ?_
      exact tw_c0 ⟨rfl, I'⟩
  · refine tw_xV0 h8 hv ?_
    refine tw_c0 ?_
    unfold wpY_insert
    dsimp only [tw_S]
    refine tw_yV0 h1 h8 hv ?_
    exact tw_c0 ⟨rfl, I'⟩
