/-! SchemaTwins: the reference's carry, towards the same row -/
section
variable {vs n : Nat} {P K A Z W KY : Nat → Nat} {nu dr ky va kn : Nat → Int32} {post : SY → Prop} {b : Bool}
theorem tw_yc47 {q v m j : Nat} {rc : Nat → Int32} {R : Nat → Nat → Int32} {J : Int32 → Int32 → Int32 → (Nat → Int32) → (Nat → Int32) → (Nat → Int32) → (Nat → Int32) → (Nat → Int32) → (Nat → Int32) → (Nat → Int32) → (Nat → Int32) → (Nat → Int32) → (Nat → Int32) → Prop} (hq12 : q ≤ 12) (hw : tw_wf vs P K A Z W) (hpa : tw_path vs v P rc) (hf : tw_fin vs v P K A Z W nu b rc (tw_Y (40 * q) va) R) (hm : m < vs)
    (hJ : ∀ f kn, tw_cy vs P W rc (tw_Y (40 * q) va) R kn (tw_Y (40 * q) f) → tw_ri vs P m vs kn → (∀ j, j < 40 * q ∨ 40 * q + 40 ≤ j → f j = va j) → J (nI (j + 1)) (nI vs) (nI n) (tw_f P) (tw_f K) (tw_f A) (tw_f Z) nu (tw_f W) ky f dr kn) :
    ∀ d i f kn, i + d = vs → 0 < i → tw_cy vs P W rc (tw_Y (40 * q) va) R kn (tw_Y (40 * q) f) → tw_ri vs P m i kn → (∀ j, j < 40 * q ∨ 40 * q + 40 ≤ j → f j = va j) →
    wY_carry_47 post J (nI q) (tw_b b) (nI j) (d + 1) (nI i) (nI vs) (nI n) (tw_f P) (tw_f K) (tw_f A) (tw_f Z) nu (tw_f W) ky f dr kn := by
  have h8 := hw.2.1
  intro d
  induction d with
  | zero =>
    intro i f kn hi' i0 I1 I2 I3
    have ei : i = vs := by omega
    subst ei
    exact br_t (Int32.le_refl _) (nm_r (nI_1 j) (hJ f kn I1 I2 I3))
  | succ d ih =>
    intro i f kn hi' i0 I1 I2 I3
    have hq := hw.2.2.2 i i0 (by omega)
    have hqP := hq.1
    have W5 : ∀ w, w < vs → ∀ c, c < W w → c < 5 := fun w hw' c hc => by have := (hw.2.2.1 w hw').2; omega
    have c : (nI i).toNatClampNeg = i := nI_clamp (by omega)
    have c' : (nI (P i)).toNatClampNeg = P i := nI_clamp (by omega)
    have i8 : vp_in (nI i) 8 := vp_in_nI (by omega) (by omega)
    have p8 : vp_in (nI (P i)) 8 := vp_in_nI (by omega) (by omega)
    refine br_f (nI_ge (by omega) (by omega)) ⟨i8, ?_⟩
    have e0 : tw_f P (nI i).toNatClampNeg = nI (P i) := by rw [c]; rfl
    rw [e0, c, c']
    refine ⟨p8, nm_e (br_c (fun kp => ?_) (fun kp => ⟨i8, br_c (fun ki => ?_) (fun ki => ?_)⟩))⟩
    · refine br_t kp ⟨i8, ?_⟩
      rw [c]
      refine br_c (fun ki => nm_r (nI_1 i) ?_) (fun ki => ?_)
      · refine ih (i + 1) f kn (by omega) (by omega) I1 (tw_ri_k I2 ?_ hqP) I3
        rw [kp, ki]
      · have k1 : kn i = 1 := by
          rcases I1.1 i (by omega) with z | z
          · exact absurd z ki
          · exact z
        refine tw_ytp (b := b) hq12 (by omega) hqP hq.2 (fun f' G => ?_)
        simp only [tw_S, c]
        rw [show tw_f P i = nI (P i) from rfl]
        refine ⟨i8, p8, nm_r (e' := upd kn (P i) 1) (by rw [c', tw_b1]) (nm_r (nI_1 i) ?_)⟩
        refine ih (i + 1) f' _ (by omega) (by omega) ?_ ?_ ?_
        · exact tw_cy_u hw hpa hf I1 i0 (by omega) kp k1 (fun c hc => G.1 c hc) (fun u hu hne c hc => tw_G_Y G hne (W5 u hu c hc))
        · refine tw_ri_s I2 ?_ pk_us
          rw [pk_un (by omega)]; exact k1
        · intro z hz
          rw [G.2 z (by omega)]; exact I3 z hz
    · have k1 : kn (P i) = 1 := by
        rcases I1.1 (P i) (by omega) with z | z
        · exact absurd z kp
        · exact z
      refine tw_ytc (b := b) hq12 (by omega) hqP hq.2 (fun f' G => ?_)
      simp only [tw_S, c]
      refine ⟨i8, nm_r (e' := upd kn i 1) (by rw [tw_b1]) (nm_r (nI_1 i) ?_)⟩
      refine ih (i + 1) f' _ (by omega) (by omega) ?_ ?_ ?_
      · exact tw_cy_d hw hpa hf I1 i0 (by omega) k1 ki (fun c hc => G.1 c hc) (fun u hu hne c hc => tw_G_Y G hne (W5 u hu c hc))
      · refine tw_ri_s I2 pk_us ?_
        rw [pk_un (by omega)]; exact k1
      · intro z hz
        rw [G.2 z (by omega)]; exact I3 z hz
    · have k1 : kn (P i) = 1 := by
        rcases I1.1 (P i) (by omega) with z | z
        · exact absurd z kp
        · exact z
      have k2 : kn i = 1 := by
        rcases I1.1 i (by omega) with z | z
        · exact absurd z ki
        · exact z
      refine br_f kp (nm_r (nI_1 i) ?_)
      refine ih (i + 1) f kn (by omega) (by omega) I1 (tw_ri_k I2 ?_ hqP) I3
      rw [k1, k2]
theorem tw_yc37 {q v : Nat} {rc : Nat → Int32} {R : Nat → Nat → Int32} (hq12 : q ≤ 12) (hw : tw_wf vs P K A Z W) (hpa : tw_path vs v P rc) (hf : tw_fin vs v P K A Z W nu b rc (tw_Y (40 * q) va) R)
    (hp : ∀ f kn, (∀ w, w < vs → ∀ c, c < W w → tw_Y (40 * q) f w c = R w c) → (∀ j, j < 40 * q ∨ 40 * q + 40 ≤ j → f j = va j) → post (tw_S vs n P K A Z W nu ky f dr kn)) :
    ∀ d j f kn, j + d = 8 → tw_cy vs P W rc (tw_Y (40 * q) va) R kn (tw_Y (40 * q) f) → tw_rd vs j kn → (∀ j, j < 40 * q ∨ 40 * q + 40 ≤ j → f j = va j) →
    wY_carry_37 post (nI q) (tw_b b) (d + 1) (nI j) (nI vs) (nI n) (tw_f P) (tw_f K) (tw_f A) (tw_f Z) nu (tw_f W) ky f dr kn := by
  have h8 := hw.2.1
  have h1 := hw.1
  intro d
  induction d with
  | zero =>
    intro j f kn hj I1 I2 I3
    have ej : j = 8 := by omega
    subst ej
    exact br_t (Int32.le_refl _) (hp f kn (fun w hw' c hc => I1.2.1 w hw' (I2.2 rfl w hw') c hc) I3)
  | succ d ih =>
    intro j f kn hj I1 I2 I3
    obtain ⟨⟨m, hm, km, hmj⟩, _⟩ := I2
    refine br_f (nI_ge (b := 8) (by omega) (by omega)) ⟨vs - 1 + 1, ?_⟩
    refine tw_yc47 hq12 hw hpa hf hm (fun f' kn' C1 C2 C3 => ?_) (vs - 1) 1 f kn (by omega) (by omega) I1 (tw_ri_0 km) I3
    exact ih (j + 1) f' kn' (by omega) C1 (tw_ri_e (fun w w0 w1 => (hw.2.2.2 w w0 w1).1) hm (by omega) hmj C2) C3
theorem tw_yc3 {q v : Nat} {rc : Nat → Int32} {R : Nat → Nat → Int32} (hq12 : q ≤ 12) (hw : tw_wf vs P K A Z W) (hv : v < vs) (hpa : tw_path vs v P rc) (hf : tw_fin vs v P K A Z W nu b rc (tw_Y (40 * q) va) R)
    (hp : ∀ f kn, (∀ w, w < vs → ∀ c, c < W w → tw_Y (40 * q) f w c = R w c) → (∀ j, j < 40 * q ∨ 40 * q + 40 ≤ j → f j = va j) → post (tw_S vs n P K A Z W nu ky f dr kn)) :
    ∀ d i kn, i + d = 8 → (∀ w, w < i → kn w = if w = v then 1 else 0) →
    wY_carry_3 post (nI q) (nI v) (tw_b b) (nI vs) (nI n) (d + 1) (nI i) (tw_f P) (tw_f K) (tw_f A) (tw_f Z) nu (tw_f W) ky va dr kn := by
  have h8 := hw.2.1
  intro d
  induction d with
  | zero =>
    intro i kn hi I
    have ei : i = 8 := by omega
    subst ei
    refine br_t (Int32.le_refl _) ⟨9, ?_⟩
    refine tw_yc37 hq12 hw hpa hf hp 8 0 va kn rfl ?_ ?_ (fun _ _ => rfl)
    · exact tw_cy_0 hpa hf (fun w hw' => I w (by omega)) (fun w w0 w1 => by have := (hw.2.2.2 w w0 w1).1; omega)
    · refine ⟨⟨v, hv, ?_, Or.inr (by omega)⟩, fun q => absurd q (by omega)⟩
      rw [I v (by omega), if_pos rfl]
  | succ d ih =>
    intro i kn hi I
    refine br_f (nI_ge (b := 8) (by omega) (by omega)) (pk_eq i v (fun e => ?_) (fun e => ?_))
    · refine ⟨vp_in_nI (by omega) (by omega), nm_r (e' := upd kn i 1) (by rw [nI_clamp (by omega), tw_b1]) (nm_r (nI_1 i) (ih (i + 1) _ (by omega) (fun w hw' => ?_)))⟩
      by_cases g : w = i
      · rw [g, pk_us, if_pos e]
      · rw [pk_un g]; exact I w (by omega)
    · refine ⟨vp_in_nI (by omega) (by omega), nm_r (e' := upd kn i 0) (by rw [nI_clamp (by omega), tw_b0]) (nm_r (nI_1 i) (ih (i + 1) _ (by omega) (fun w hw' => ?_)))⟩
      by_cases g : w = i
      · rw [g, pk_us, if_neg e]
      · rw [pk_un g]; exact I w (by omega)
theorem tw_yca {q v : Nat} {rc : Nat → Int32} {R : Nat → Nat → Int32} (hq12 : q ≤ 12) (hw : tw_wf vs P K A Z W) (hv : v < vs) (hpa : tw_path vs v P rc) (hf : tw_fin vs v P K A Z W nu b rc (tw_Y (40 * q) va) R)
    (hp : ∀ f kn, (∀ w, w < vs → ∀ c, c < W w → tw_Y (40 * q) f w c = R w c) → (∀ j, j < 40 * q ∨ 40 * q + 40 ≤ j → f j = va j) → post (tw_S vs n P K A Z W nu ky f dr kn)) :
    wpY_carry post (tw_S vs n P K A Z W nu ky va dr kn) (nI q) (nI v) (tw_b b) :=
  ⟨9, tw_yc3 hq12 hw hv hpa hf hp 8 0 kn rfl (fun w h => absurd h (Nat.not_lt_zero _))⟩
end
