/-! SchemaTwins: the reference's two moves, its walks -/
section
variable {vs n : Nat} {P K A Z W KY : Nat → Nat} {nu dr ky va kn : Nat → Int32} {post : SY → Prop} {b : Bool}
theorem tw_ytc89 {J : Int32 → (Nat → Int32) → (Nat → Int32) → (Nat → Int32) → (Nat → Int32) → (Nat → Int32) → (Nat → Int32) → (Nat → Int32) → (Nat → Int32) → (Nat → Int32) → (Nat → Int32) → Prop} {w t s i : Nat} {f : Nat → Int32} {x3 x8 x9 : Int32} (hk : K w ≤ 5) (hx : A w < 8) (ht : t + 5 ≤ 520) (hs : s + 5 ≤ 520) (hi : i < 5) (h1 : K w = 1 → i < 4)
    (hJ : J (nI (i + 1)) (tw_f P) (tw_f K) (tw_f A) (tw_f Z) nu (tw_f W) ky (upd f (t + i) (f (s + if K w = 1 ∧ A w ≤ i then i + 1 else i))) dr kn) :
    wY_toChild_89 post J (nI w) x3 (nI t) (nI s) (nI (K w)) (nI (A w)) x8 x9 (nI i) (nI vs) (nI n) (tw_f P) (tw_f K) (tw_f A) (tw_f Z) nu (tw_f W) ky f dr kn := by
  refine tw_c0 (tw_c0 (pk_eq (K w) 1 (fun e => pk_lt i (A w) (fun g => ?_) (fun g => ?_)) (fun e => ?_)))
  · rw [if_neg (by omega)] at hJ
    simp (disch := omega) only [forall_eq, nI_add, nI_clamp, tw_in, true_and, nI_1]
    exact hJ
  · rw [if_pos (by omega)] at hJ
    have := h1 e
    simp (disch := omega) only [forall_eq, nI_1, nI_add, nI_clamp, tw_in, true_and]
    exact hJ
  · rw [if_neg (by omega)] at hJ
    simp (disch := omega) only [forall_eq, nI_add, nI_clamp, tw_in, true_and, nI_1]
    exact hJ
theorem tw_ytcl {w t s wp : Nat} (hw : w < 8) (ok : tw_ok (K w) (A w) (Z w) wp (W w)) (ht : t + 5 ≤ 520) (hs : s + 5 ≤ 520) (hd : s + 5 ≤ t ∨ t + 5 ≤ s)
    (hp : ∀ f', tw_G va f' t (W w) (tw_td (K w) (A w) (Z w) (nu w) (W w) b (fun c => va (s + c)) (fun c => va (t + c))) → post (tw_S vs n P K A Z W nu ky f' dr kn)) :
    ∀ d i f, i + d = W w → tw_I va t (tw_yd (K w) (A w) (W w) (nu w) b va t s) i f →
    wY_toChild_62 post (nI w) (tw_b b) (nI t) (nI s) (nI (K w)) (nI (A w)) (nI (Z w)) (nI (W w - 1)) (nI vs) (nI n) (d + 1) (nI i) (tw_f P) (tw_f K) (tw_f A) (tw_f Z) nu (tw_f W) ky f dr kn := by
  have ok' := ok
  unfold tw_ok at ok'
  have c : (nI w).toNatClampNeg = w := nI_clamp (by omega)
  have i8 : vp_in (nI w) 8 := vp_in_nI (by omega) (by omega)
  intro d
  induction d with
  | zero =>
    intro i f hi' I
    have ei : i = W w := by omega
    subst ei
    refine ⟨i8, ?_⟩
    simp only [c]
    refine br_t (Int32.le_refl _) (pk_eq (K w) 2 (fun e => ?_) (fun e2 => pk_eq (K w) 4 (fun e => ?_) (fun e4 => pk_eq (K w) 5 (fun e => ?_) (fun e5 => hp _ (tw_yd_n ok I e2 e4 e5)))))
    · simp (disch := omega) only [forall_eq, nI_add, nI_clamp, tw_in, true_and]
      exact pk_eq (K w) 4 (fun q => absurd q (by omega)) (fun _ => pk_eq (K w) 5 (fun q => absurd q (by omega)) (fun _ => hp _ (tw_yd_sk e ok hd I)))
    · simp (disch := omega) only [forall_eq, nI_add, nI_clamp, tw_in, true_and]
      exact pk_eq (K w) 5 (fun q => absurd q (by omega)) (fun _ => hp _ (tw_yd_4k e ok hd I))
    · simp (disch := omega) only [forall_eq, nI_add, nI_clamp, tw_in, true_and]
      exact hp _ (tw_yd_5k e ok hd I)
  | succ d ih =>
    intro i f hi' I
    have nf : ¬ (K w = 0 ∧ i + 1 = W w) → wY_toChild_89 post (wY_toChild_62 post (nI w) (tw_b b) (nI t) (nI s) (nI (K w)) (nI (A w)) (nI (Z w)) (nI (W w - 1)) (nI vs) (nI n) (d + 1)) (nI w) (tw_b b) (nI t) (nI s) (nI (K w)) (nI (A w)) (nI (Z w)) (nI (W w - 1)) (nI i) (nI vs) (nI n) (tw_f P) (tw_f K) (tw_f A) (tw_f Z) nu (tw_f W) ky f dr kn := by
      intro nfr
      refine tw_ytc89 (by omega) (by omega) ht hs (by omega) (by omega) (ih (i + 1) _ (by omega) (tw_I_s I ?_))
      unfold tw_yd
      rw [if_neg nfr]
      refine I.2 _ ?_
      split <;> omega
    refine ⟨i8, ?_⟩
    simp only [c]
    refine br_f (nI_ge (by omega) (by omega)) (pk_eq (K w) 0 (fun e => pk_eq i (W w - 1) (fun g => ?_) (fun g => nf (by omega))) (fun e => nf (by omega)))
    have fr : K w = 0 ∧ i + 1 = W w := by omega
    cases b
    · refine tw_c1 (tw_c0 (tw_c1 (nm_r (nI_1 i) (ih (i + 1) f (by omega) (tw_I_k I ?_)))))
      unfold tw_yd
      rw [if_pos fr]; rfl
    · refine tw_c1 (tw_c1 ?_)
      simp (disch := omega) only [forall_eq, nI_add, nI_clamp, tw_in, true_and]
      refine tw_c1 (nm_r (nI_1 i) (ih (i + 1) _ (by omega) (tw_I_s I ?_)))
      unfold tw_yd
      rw [if_pos fr]; rfl
theorem tw_ytc {r w : Nat} (hr : r ≤ 12) (hw : w < 8) (hP : P w < w) (ok : tw_ok (K w) (A w) (Z w) (W (P w)) (W w))
    (hp : ∀ f', tw_G va f' (40 * r + 5 * w) (W w) (tw_td (K w) (A w) (Z w) (nu w) (W w) b (fun c => va (40 * r + 5 * P w + c)) (fun c => va (40 * r + 5 * w + c))) → post (tw_S vs n P K A Z W nu ky f' dr kn)) :
    wpY_toChild post (tw_S vs n P K A Z W nu ky va dr kn) (nI r) (nI w) (tw_b b) := by
  have ok' := ok
  unfold tw_ok at ok'
  have e : nI (W w) - 1 = nI (W w - 1) := pk_sub (b := 1) (by omega)
  unfold wpY_toChild
  simp (disch := omega) only [tw_S, forall_eq, nI_clamp, tw_f, tw_in, true_and, tw_cY, e]
  exact ⟨W w + 1, tw_ytcl hw ok (by omega) (by omega) (by omega) hp _ 0 _ (by omega) tw_I_0⟩
theorem tw_ytp85 {J : Int32 → (Nat → Int32) → (Nat → Int32) → (Nat → Int32) → (Nat → Int32) → (Nat → Int32) → (Nat → Int32) → (Nat → Int32) → (Nat → Int32) → (Nat → Int32) → (Nat → Int32) → Prop} {w t s i : Nat} {f : Nat → Int32} {x3 x8 : Int32} (hk : K w ≤ 5) (hx : A w < 8) (ht : t + 5 ≤ 520) (hs : s + 5 ≤ 520) (hi : i < 5)
    (hJ : J (nI (i + 1)) (tw_f P) (tw_f K) (tw_f A) (tw_f Z) nu (tw_f W) ky (upd f (t + i) (f (s + if K w = 1 ∧ A w < i then i - 1 else i))) dr kn) :
    wY_toParent_85 post J (nI w) x3 (nI t) (nI s) (nI (K w)) (nI (A w)) x8 (nI i) (nI vs) (nI n) (tw_f P) (tw_f K) (tw_f A) (tw_f Z) nu (tw_f W) ky f dr kn := by
  refine tw_c0 (tw_c0 (pk_eq (K w) 1 (fun e => pk_le i (A w) (fun g => ?_) (fun g => ?_)) (fun e => ?_)))
  · rw [if_neg (by omega)] at hJ
    simp (disch := omega) only [forall_eq, nI_add, nI_clamp, tw_in, true_and, nI_1]
    exact hJ
  · rw [if_pos (by omega)] at hJ
    have q : nI i - 1 = nI (i - 1) := pk_sub (b := 1) (by omega)
    simp (disch := omega) only [forall_eq, q, nI_add, nI_clamp, tw_in, true_and, nI_1]
    exact hJ
  · rw [if_neg (by omega)] at hJ
    simp (disch := omega) only [forall_eq, nI_add, nI_clamp, tw_in, true_and, nI_1]
    exact hJ
theorem tw_ytpl {w t s : Nat} (hw : w < 8) (hP : P w < w) (ok : tw_ok (K w) (A w) (Z w) (W (P w)) (W w)) (ht : t + 5 ≤ 520) (hs : s + 5 ≤ 520) (hd : s + 5 ≤ t ∨ t + 5 ≤ s)
    (hp : ∀ f', tw_G va f' t (W (P w)) (tw_tp (K w) (A w) (Z w) (nu w) b (fun c => va (s + c)) (fun c => va (t + c))) → post (tw_S vs n P K A Z W nu ky f' dr kn)) :
    ∀ d i f, i + d = W (P w) → tw_I va t (tw_yu (K w) (A w) (nu w) b va t s) i f →
    wY_toParent_52 post (nI w) (tw_b b) (nI t) (nI s) (nI (K w)) (nI (A w)) (nI (Z w)) (nI vs) (nI n) (d + 1) (nI i) (tw_f P) (tw_f K) (tw_f A) (tw_f Z) nu (tw_f W) ky f dr kn := by
  have ok' := ok
  unfold tw_ok at ok'
  have c : (nI w).toNatClampNeg = w := nI_clamp (by omega)
  have c' : (nI (P w)).toNatClampNeg = P w := nI_clamp (by omega)
  have i8 : vp_in (nI w) 8 := vp_in_nI (by omega) (by omega)
  have p8 : vp_in (nI (P w)) 8 := vp_in_nI (by omega) (by omega)
  intro d
  induction d with
  | zero =>
    intro i f hi' I
    refine ⟨i8, ?_⟩
    simp only [c, tw_f, c']
    refine ⟨p8, br_t (nI_le (by omega) (by omega)) ?_⟩
    have ei : i = W (P w) := by omega
    rw [ei] at I
    refine pk_eq (K w) 2 (fun e => ?_) (fun e2 => pk_eq (K w) 4 (fun e => ?_) (fun e4 => pk_eq (K w) 5 (fun e => ?_) (fun e5 => hp _ (tw_yu_n ok I e2 e4 e5))))
    · simp (disch := omega) only [forall_eq, nI_add, nI_clamp, tw_in, true_and]
      exact pk_eq (K w) 4 (fun q => absurd q (by omega)) (fun _ => pk_eq (K w) 5 (fun q => absurd q (by omega)) (fun _ => hp _ (tw_yu_sk e ok hd I)))
    · simp (disch := omega) only [forall_eq, nI_add, nI_clamp, tw_in, true_and]
      exact pk_eq (K w) 5 (fun q => absurd q (by omega)) (fun _ => hp _ (tw_yu_4k e ok hd I))
    · simp (disch := omega) only [forall_eq, nI_add, nI_clamp, tw_in, true_and]
      exact hp _ (tw_yu_5k e ok hd I)
  | succ d ih =>
    intro i f hi' I
    have nf : ¬ (K w = 1 ∧ i = A w) → wY_toParent_85 post (wY_toParent_52 post (nI w) (tw_b b) (nI t) (nI s) (nI (K w)) (nI (A w)) (nI (Z w)) (nI vs) (nI n) (d + 1)) (nI w) (tw_b b) (nI t) (nI s) (nI (K w)) (nI (A w)) (nI (Z w)) (nI i) (nI vs) (nI n) (tw_f P) (tw_f K) (tw_f A) (tw_f Z) nu (tw_f W) ky f dr kn := by
      intro nfr
      refine tw_ytp85 (by omega) (by omega) ht hs (by omega) (ih (i + 1) _ (by omega) (tw_I_s I ?_))
      unfold tw_yu
      rw [if_neg nfr]
      refine I.2 _ ?_
      split <;> omega
    refine ⟨i8, ?_⟩
    simp only [c]
    have e0 : tw_f P w = nI (P w) := rfl
    rw [e0, c']
    refine ⟨p8, br_f (nI_ge (by omega) (by omega)) (pk_eq (K w) 1 (fun e => pk_eq i (A w) (fun g => ?_) (fun g => nf (by omega))) (fun e => nf (by omega)))⟩
    have fr : K w = 1 ∧ i = A w := by omega
    cases b
    · refine tw_c1 (tw_c0 (tw_c1 (nm_r (nI_1 i) (ih (i + 1) f (by omega) (tw_I_k I ?_)))))
      unfold tw_yu
      rw [if_pos fr]; rfl
    · refine tw_c1 (tw_c1 ?_)
      simp (disch := omega) only [forall_eq, nI_add, nI_clamp, tw_in, true_and]
      refine tw_c1 (nm_r (nI_1 i) (ih (i + 1) _ (by omega) (tw_I_s I ?_)))
      unfold tw_yu
      rw [if_pos fr]; rfl
theorem tw_ytp {r w : Nat} (hr : r ≤ 12) (hw : w < 8) (hP : P w < w) (ok : tw_ok (K w) (A w) (Z w) (W (P w)) (W w))
    (hp : ∀ f', tw_G va f' (40 * r + 5 * P w) (W (P w)) (tw_tp (K w) (A w) (Z w) (nu w) b (fun c => va (40 * r + 5 * w + c)) (fun c => va (40 * r + 5 * P w + c))) → post (tw_S vs n P K A Z W nu ky f' dr kn)) :
    wpY_toParent post (tw_S vs n P K A Z W nu ky va dr kn) (nI r) (nI w) (tw_b b) := by
  have ok' := ok
  unfold tw_ok at ok'
  unfold wpY_toParent
  simp (disch := omega) only [tw_S, forall_eq, nI_clamp, tw_f, tw_in, true_and, tw_cY]
  exact ⟨W (P w) + 1, tw_ytpl hw hP ok (by omega) (by omega) (by omega) hp _ 0 _ (by omega) tw_I_0⟩
end
