/-! SchemaTwins: delete and edit -/
section
variable {vs n : Nat} {P K A Z W KY : Nat → Nat} {nu dr pr ce rc ky va kn : Nat → Int32} {post : Int32 → SY → Prop}
theorem tw_ydel {m a : Nat} (hm : m < 12) (hp : ∀ ky' va', tw_sd m a ky va m ky' va' → post (nI m) (tw_S vs m P K A Z W nu ky' va' dr kn)) :
    ∀ d k ky' va', k + d = m → tw_sd m a ky va k ky' va' → wY_delete_46 post (d + 1) (nI k) (nI vs) (nI (m + 1)) (tw_f P) (tw_f K) (tw_f A) (tw_f Z) nu (tw_f W) ky' va' dr kn := by
  intro d
  induction d with
  | zero =>
    intro k ky' va' hk I
    have ek : k = m := by omega
    subst ek
    exact br_t (by rw [nI_pred]; exact Int32.le_refl _) (nm_r (nI_pred k) (hp _ _ I))
  | succ d ih =>
    intro k ky' va' hk I
    refine br_f (by rw [nI_pred]; exact nI_ge (by omega) (by omega)) ?_
    simp (disch := omega) only [forall_eq, nI_1, nI_clamp, tw_in, true_and]
    refine tw_ycp (s := k + 1) (t := k) (by omega) (by omega) (by omega) (fun f' C => ?_)
    exact ih (k + 1) _ f' (by omega) (tw_sd_s I hm (by omega) C)
end
theorem i_vc_delete {k : Nat} {u : SX} {v : SY} (I : i_Rel k u v) (hk : k + 5 ≤ 2560) (v1 : Int32) (v2 : Int32) : wpX_delete (fun r u' => wpY_delete (fun r' v' => r' = r ∧ i_Rel (k + 5) u' v') v v1 v2) u v1 v2 := by
  obtain ⟨vs, n, P, K, A, Z, W, KY, nu, dr, pr, ce, rc, ky, va, kn, rfl, rfl, hw, hK, hV⟩ := I
  have I' : i_Rel (k + 5) (tw_X vs n P K A Z W nu dr pr ce rc) (tw_S vs n P K A Z W nu ky va dr kn) := ⟨vs, n, P, K, A, Z, W, KY, nu, dr, pr, ce, rc, ky, va, kn, rfl, rfl, hw, hK, hV⟩
  have h8 := hw.2.1
  have h1 := hw.1
  have n12 := hK.1
  unfold wpX_delete
  dsimp only [tw_X]
  by_cases hv : ∃ v, v < vs ∧ v1 = nI v
  · obtain ⟨v, hv, rfl⟩ := hv
    refine tw_xV1 hv h8 ?_
    refine tw_c1 ?_
    by_cases hy : ∃ k, k < 100 ∧ v2 = nI k
    · obtain ⟨y, hy, rfl⟩ := hy
      refine tw_xK1 hy ?_
      refine tw_c1 ?_
      by_cases hr : ∃ r, r < n ∧ KY r = y
      · obtain ⟨r, hr, rfl⟩ := hr
        refine tw_xshC hw hK hV hv hr ?_
        cases e : tw_ps P K A nu (tw_Y (40 * r) va) 8 v
        · refine tw_c0 ?_
          unfold wpY_delete
          dsimp only [tw_S]
          refine tw_yV1 hv h8 ?_
          refine tw_c1 ?_
          refine tw_yin1 (m := 100) hy (by omega) ?_
          refine tw_c1 ?_
          refine tw_fS hK hr ?_
          refine br_f (nI_pos (by omega)) ?_
          refine tw_yps (by omega) hw hv ?_
          rw [e]
          exact tw_c0 ⟨rfl, I'⟩
        · obtain ⟨m, rfl⟩ : ∃ m, n = m + 1 := ⟨n - 1, by omega⟩
          refine tw_c1 ⟨vp_in_nI hy (by omega), nm_r (e' := upd pr (KY r) 0) (by rw [nI_clamp (by omega), tw_b0]) (nm_r (nI_pred m) ?_)⟩
          unfold wpY_delete
          dsimp only [tw_S]
          refine tw_yV1 hv h8 ?_
          refine tw_c1 ?_
          refine tw_yin1 (m := 100) hy (by omega) ?_
          refine tw_c1 ?_
          refine tw_fS hK hr ?_
          refine br_f (nI_pos (by omega)) ?_
          refine tw_yps (by omega) hw hv ?_
          rw [e]
          refine tw_c1 ⟨m - r + 1, ?_⟩
          refine tw_ydel (a := r) (by omega) (fun ky' va' S => ?_) (m - r) r ky va (by omega) (tw_sd_0 (by omega))
          obtain ⟨s1, s2, s3, s4, s5⟩ := S
          refine ⟨rfl, vs, m, P, K, A, Z, W, tw_kd KY r, nu, dr, upd pr (KY r) 0, ce, rc, ky', va', kn, rfl, rfl, hw, ?_, ?_⟩
          · exact tw_keys_d hK (by omega) (fun q hq => (s3 q hq).1) (fun q h2 h3 => (s4 q h2 h3).1)
          · exact tw_vals_d hV h8 (fun w hw' => (hw.2.2.1 w hw').2) (by omega) (fun q hq => (s3 q hq).2) (fun q h2 h3 => (s4 q h2 h3).2)
      · have ny : ∀ q, q < n → KY q ≠ y := fun q hq e => hr ⟨q, hq, e⟩
        refine tw_xshB hw hK hv (tw_nk hK hy ny) ?_
        refine tw_c0 ?_
        unfold wpY_delete
        dsimp only [tw_S]
        refine tw_yV1 hv h8 ?_
        refine tw_c1 ?_
        refine tw_yin1 (m := 100) hy (by omega) ?_
        refine tw_c1 ?_
        refine tw_fN hK (tw_nk hK hy ny) ?_
        exact br_t tw_m1 ⟨rfl, I'⟩
    · refine tw_xK0 hy ?_
      refine tw_c0 ?_
      unfold wpY_delete
      dsimp only [tw_S]
      refine tw_yV1 hv h8 ?_
      refine tw_c1 ?_
      refine tw_yin0 (m := 100) (by omega) (by omega) hy ?_
      exact tw_c0 ⟨rfl, I'⟩
  · refine tw_xV0 h8 hv ?_
    refine tw_c0 ?_
    unfold wpY_delete
    dsimp only [tw_S]
    refine tw_yV0 h1 h8 hv ?_
    exact tw_c0 ⟨rfl, I'⟩
/-! edit -/
section
variable {vs n : Nat} {P K A Z W KY : Nat → Nat} {nu dr pr ce rc ky va kn : Nat → Int32}
theorem tw_ef46 {post : Int32 → Prop} {kd x z : Nat} {f1 f2 : Int32} {g1 g2 g3 g4 g5 g6 g7 g8 g9 g0 : Nat → Int32} (hk : kd < 8) (hx : x < 8) (hz : z < 8) (h0 : kd = 5 → x = z → post 0) (h1 : ¬ (kd = 5 ∧ x = z) → post 1) : wX_editFits_46 post (nI kd) (nI x) (nI z) f1 f2 g1 g2 g3 g4 g5 g6 g7 g8 g9 g0 :=
  pk_eq kd 5 (fun e => pk_eq x z (fun e2 => h0 e e2) (fun e2 => h1 (by omega))) (fun e => h1 (by omega))
theorem tw_xef {post : Int32 → Prop} {v kd x z : Nat} (hv : v < 8) (hW : W v ≤ 5) (hk : kd < 8) (hx : x < 8) (hz : z < 8)
    (h1 : kd ≤ 5 → (kd ≠ 0 → x < W v) → (4 ≤ kd → z < W v) → (kd = 5 → x ≠ z) → post 1) (h0 : ¬ (kd ≤ 5 ∧ (kd ≠ 0 → x < W v) ∧ (4 ≤ kd → z < W v) ∧ (kd = 5 → x ≠ z)) → post 0) :
    wpX_editFits post (tw_X vs n P K A Z W nu dr pr ce rc) (nI v) (nI kd) (nI x) (nI z) := by
  have c : (nI v).toNatClampNeg = v := nI_clamp (by omega)
  have i8 : vp_in (nI v) 8 := vp_in_nI (by omega) (by omega)
  have h23 : kd ≤ 5 → (kd ≠ 0 → x < W v) → wX_editFits_23 post (nI v) (nI kd) (nI x) (nI z) (nI vs) (nI n) (tw_f P) (tw_f K) (tw_f A) (tw_f Z) nu (tw_f W) dr pr ce rc := by
    intro k5 kx
    have h33 : 4 ≤ kd → wX_editFits_33 post (nI v) (nI kd) (nI x) (nI z) (nI vs) (nI n) (tw_f P) (tw_f K) (tw_f A) (tw_f Z) nu (tw_f W) dr pr ce rc := by
      intro k4
      refine ⟨i8, ?_⟩
      rw [c]
      refine pk_lt z (W v) (fun g => ?_) (fun g => h0 (by omega))
      exact tw_ef46 hk hx hz (fun a b => h0 (by omega)) (fun a => h1 k5 kx (fun _ => g) (by omega))
    exact pk_eq kd 4 (fun e => h33 (by omega)) (fun e4 => pk_eq kd 5 (fun e => h33 (by omega)) (fun e5 => tw_ef46 hk hx hz (fun a b => absurd a e5) (fun a => h1 k5 kx (fun q => absurd q (by omega)) (by omega))))
  unfold wpX_editFits
  dsimp only [tw_X]
  rw [c]
  exact pk_le kd 5 (fun k5 => pk_eq kd 0 (fun e => h23 k5 (by omega)) (fun e => ⟨i8, pk_lt x (W v) (fun g => h23 k5 (fun _ => g)) (fun g => h0 (by omega))⟩)) (fun k5 => h0 (by omega))
def tw_wd (kd w : Nat) : Nat := if kd = 0 then w + 1 else if kd = 1 then w - 1 else w
theorem tw_wd0 {kd w : Nat} (e : kd = 0) : nI w + 1 = nI (tw_wd kd w) := by
  unfold tw_wd; rw [if_pos e, nI_1]
theorem tw_wd1 {kd w : Nat} (h1 : 1 ≤ w) (e0 : kd ≠ 0) (e : kd = 1) : nI w + (-1) = nI (tw_wd kd w) := by
  unfold tw_wd; rw [if_neg e0, if_pos e]
  obtain ⟨m, rfl⟩ : ∃ m, w = m + 1 := ⟨w - 1, by omega⟩
  exact pk_m1 m
theorem tw_wd2 {kd w : Nat} (e0 : kd ≠ 0) (e : kd ≠ 1) : nI w + 0 = nI (tw_wd kd w) := by
  unfold tw_wd; rw [if_neg e0, if_neg e, Int32.add_zero]
theorem tw_xwd {post : Int32 → Prop} {kd w : Nat} (hk : kd < 8) (h1 : 1 ≤ w) (h : ∀ r, nI w + r = nI (tw_wd kd w) → post r) : wpX_widening post (tw_X vs n P K A Z W nu dr pr ce rc) (nI kd) :=
  pk_eq kd 0 (fun e => h _ (tw_wd0 e)) (fun e => pk_eq kd 1 (fun e1 => h _ (tw_wd1 h1 e e1)) (fun e1 => h _ (tw_wd2 e e1)))
theorem tw_wdok {kd x z w : Nat} (hx : x < 8) (hz : z < 8) (hw : 1 ≤ w ∧ w ≤ 5) (k5 : kd ≤ 5) (kx : kd ≠ 0 → x < w) (kz : 4 ≤ kd → z < w) (kn : kd = 5 → x ≠ z) (g1 : 1 ≤ tw_wd kd w) (g5 : tw_wd kd w ≤ 5) : tw_ok kd x z w (tw_wd kd w) := by
  refine ⟨k5, hw, ⟨g1, g5⟩, kx, kz, kn, fun e => ?_, fun e => ?_, fun e => ?_, hx, hz⟩
  · unfold tw_wd; rw [if_pos e]
  · unfold tw_wd; rw [if_neg (by omega), if_pos e]; omega
  · unfold tw_wd; rw [if_neg (by omega), if_neg (by omega)]
/-- the reference's new version, row by row -/
def tw_gl (P K A Z W : Nat → Nat) (nu va : Nat → Int32) (w i : Nat) (f : Nat → Int32) : Prop :=
  (∀ k, k < i → ∀ c, c < W w → f (40 * k + 5 * w + c) = tw_td (K w) (A w) (Z w) (nu w) (W w) true (fun c => va (40 * k + 5 * P w + c)) (fun c => va (40 * k + 5 * w + c)) c) ∧ (∀ k, i ≤ k → ∀ j, j < 40 → f (40 * k + j) = va (40 * k + j)) ∧ (∀ k v, v < 8 → v ≠ w → ∀ c, c < 5 → f (40 * k + 5 * v + c) = va (40 * k + 5 * v + c))
theorem tw_gl_s {w i : Nat} {f f' : Nat → Int32} (hw : w < 8) (hP : P w < w) (ok : tw_ok (K w) (A w) (Z w) (W (P w)) (W w)) (I : tw_gl P K A Z W nu va w i f)
    (G : tw_G f f' (40 * i + 5 * w) (W w) (tw_td (K w) (A w) (Z w) (nu w) (W w) true (fun c => f (40 * i + 5 * P w + c)) (fun c => f (40 * i + 5 * w + c)))) : tw_gl P K A Z W nu va w (i + 1) f' := by
  obtain ⟨a1, a2, a3⟩ := I
  have ok' := ok
  unfold tw_ok at ok'
  refine ⟨fun k hk c hc => ?_, fun k hk j hj => ?_, fun k v hv hne c hc => ?_⟩
  · by_cases e : k = i
    · subst e
      refine (G.1 c hc).trans (tw_td_c ok (fun c hc => ?_) (fun q => absurd q (by decide)) c hc)
      have := a2 k (Nat.le_refl _) (5 * P w + c) (by omega)
      rw [← Nat.add_assoc] at this; exact this
    · rw [G.2 _ (by omega)]; exact a1 k (by omega) c hc
  · rw [G.2 _ (by omega)]; exact a2 k (by omega) j hj
  · rw [G.2 _ (by omega)]; exact a3 k v hv hne c hc
theorem tw_yel {post : Int32 → SY → Prop} {w : Nat} (hw : w < 8) (hn : n ≤ 12) (hP : P w < w) (ok : tw_ok (K w) (A w) (Z w) (W (P w)) (W w))
    (hp : ∀ f', tw_gl P K A Z W nu va w n f' → post (nI w) (tw_S (w + 1) n P K A Z W nu ky f' dr kn)) :
    ∀ d i f, i + d = n → tw_gl P K A Z W nu va w i f → wY_edit_218 post (d + 1) (nI i) (nI w) (nI n) (tw_f P) (tw_f K) (tw_f A) (tw_f Z) nu (tw_f W) ky f dr kn := by
  intro d
  induction d with
  | zero =>
    intro i f hi I
    have ei : i = n := by omega
    subst ei
    refine br_t (Int32.le_refl _) (nm_r (nI_1 w) ?_)
    rw [nI_pred]
    exact hp f I
  | succ d ih =>
    intro i f hi I
    refine br_f (nI_ge (by omega) (by omega)) ?_
    refine tw_ytc (b := true) (by omega) hw hP ok (fun f' G => ?_)
    exact nm_r (nI_1 i) (ih (i + 1) f' (by omega) (tw_gl_s hw hP ok I G))
end
