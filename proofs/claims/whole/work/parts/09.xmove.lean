/-! SchemaTwins: the component's moves, copies, and how it spreads a row -/
section
variable {vs n : Nat} {P K A Z W : Nat → Nat} {nu dr pr ce rc : Nat → Int32} {post : SX → Prop} {b : Bool}
theorem tw_xfpl {w lo hi wp : Nat} (hw : w < 8) (ok : tw_ok (K w) (A w) (Z w) wp (W w)) (hlo : lo + 5 ≤ 4040) (hhi : hi + 5 ≤ 4040) (hd : hi + 5 ≤ lo ∨ lo + 5 ≤ hi)
    (hp : ∀ f', tw_G ce f' lo (W w) (tw_td (K w) (A w) (Z w) (nu w) (W w) b (fun c => ce (hi + c)) (fun c => ce (lo + c))) → post (tw_X vs n P K A Z W nu dr pr f' rc)) :
    ∀ d i f, i + d = tw_cm (K w) (W w) → tw_I ce lo (fun c => ce (hi + tw_th (K w) (A w) (Z w) c)) i f →
    wX_followParent_31 post (nI w) (tw_b b) (nI hi) (nI lo) (nI (tw_cm (K w) (W w))) (nI vs) (nI n) (d + 1) (nI i) (tw_f P) (tw_f K) (tw_f A) (tw_f Z) nu (tw_f W) dr pr f rc := by
  have ok' := ok
  unfold tw_ok at ok'
  have c : (nI w).toNatClampNeg = w := nI_clamp (by omega)
  have i8 : vp_in (nI w) 8 := vp_in_nI (by omega) (by omega)
  have cm5 : tw_cm (K w) (W w) ≤ 5 := by unfold tw_cm; split <;> omega
  intro d
  induction d with
  | zero =>
    intro i f hi' I
    have ei : i = tw_cm (K w) (W w) := by omega
    rw [ei] at I ⊢
    refine br_t (Int32.le_refl _) ⟨i8, nm_e ⟨i8, ?_⟩⟩
    simp only [c, tw_f]
    refine pk_eq (K w) 2 (fun e => ?_) (fun e2 => ⟨i8, pk_eq (K w) 5 (fun e => ?_) (fun e5 => ⟨i8, pk_eq (K w) 0 (fun e => ?_) (fun e0 => ?_)⟩)⟩)
    · simp (disch := omega) only [forall_eq, nI_add, nI_clamp, tw_in, true_and]
      exact hp _ (tw_fp_2k e ok I)
    · simp (disch := omega) only [forall_eq, nI_add, nI_clamp, tw_in, true_and]
      exact hp _ (tw_fp_5k e ok I)
    · cases b
      · exact tw_c0 (hp _ (tw_fp_n ok I e2 e5 (fun _ => rfl)))
      · refine tw_c1 ?_
        have q : tw_cm (K w) (W w) < 5 := by unfold tw_cm; rw [if_pos e]; omega
        simp (disch := omega) only [forall_eq, nI_add, nI_clamp, tw_in, true_and]
        exact hp _ (tw_fp_0k e ok I)
    · exact hp _ (tw_fp_n ok I e2 e5 (fun q => absurd q e0))
  | succ d ih =>
    intro i f hi' I
    have t5 := tw_th_lt ok (c := i) (by omega)
    refine br_f (nI_ge (by omega) (by omega)) (tw_xcp (by omega) (by omega) (by omega) (by omega) (by omega) ?_)
    simp (disch := omega) only [forall_eq, nI_add, nI_clamp, tw_in, true_and, nI_1]
    exact ih (i + 1) _ (by omega) (tw_I_s I (I.2 _ (by omega)))
theorem tw_xfp {r w : Nat} (hr : r ≤ 100) (hw : w < 8) (hP : P w < w) (ok : tw_ok (K w) (A w) (Z w) (W (P w)) (W w))
    (hp : ∀ f', tw_G ce f' (r * 40 + w * 5) (W w) (tw_td (K w) (A w) (Z w) (nu w) (W w) b (fun c => ce (r * 40 + P w * 5 + c)) (fun c => ce (r * 40 + w * 5 + c))) → post (tw_X vs n P K A Z W nu dr pr f' rc)) :
    wpX_followParent post (tw_X vs n P K A Z W nu dr pr ce rc) (nI r) (nI w) (tw_b b) := by
  have ok' := ok
  unfold tw_ok at ok'
  refine ⟨vp_in_nI (by omega) (by omega), ?_⟩
  rw [nI_clamp (by omega)]
  refine tw_xcb (w := P w) (tw_xcb (tw_xcm hw (by omega) (by omega) ⟨tw_cm (K w) (W w) + 1, ?_⟩))
  exact tw_xfpl hw ok (by omega) (by omega) (by omega) hp _ 0 _ (by omega) tw_I_0
theorem tw_xfcl {w lo hi wp : Nat} (hw : w < 8) (ok : tw_ok (K w) (A w) (Z w) wp (W w)) (hlo : lo + 5 ≤ 4040) (hhi : hi + 5 ≤ 4040) (hd : hi + 5 ≤ lo ∨ lo + 5 ≤ hi)
    (hp : ∀ f', tw_G ce f' hi wp (tw_tp (K w) (A w) (Z w) (nu w) b (fun c => ce (lo + c)) (fun c => ce (hi + c))) → post (tw_X vs n P K A Z W nu dr pr f' rc)) :
    ∀ d i f, i + d = tw_cm (K w) (W w) → tw_J ce lo hi (K w) (A w) (Z w) i f →
    wX_followChild_31 post (nI w) (tw_b b) (nI hi) (nI lo) (nI (tw_cm (K w) (W w))) (nI vs) (nI n) (d + 1) (nI i) (tw_f P) (tw_f K) (tw_f A) (tw_f Z) nu (tw_f W) dr pr f rc := by
  have ok' := ok
  unfold tw_ok at ok'
  have c : (nI w).toNatClampNeg = w := nI_clamp (by omega)
  have i8 : vp_in (nI w) 8 := vp_in_nI (by omega) (by omega)
  have cm5 : tw_cm (K w) (W w) ≤ 5 := by unfold tw_cm; split <;> omega
  intro d
  induction d with
  | zero =>
    intro i f hi' I
    have ei : i = tw_cm (K w) (W w) := by omega
    rw [ei] at I ⊢
    refine br_t (Int32.le_refl _) ⟨i8, nm_e ⟨i8, ?_⟩⟩
    simp only [c, tw_f]
    refine pk_eq (K w) 2 (fun e => ?_) (fun e2 => ⟨i8, pk_eq (K w) 5 (fun e => ?_) (fun e5 => ⟨i8, pk_eq (K w) 1 (fun e => ?_) (fun e0 => ?_)⟩)⟩)
    · simp (disch := omega) only [forall_eq, nI_add, nI_clamp, tw_in, true_and]
      exact hp _ (tw_fc_2k e ok I)
    · simp (disch := omega) only [forall_eq, nI_add, nI_clamp, tw_in, true_and]
      exact hp _ (tw_fc_5k e ok I)
    · cases b
      · exact tw_c0 (hp _ (tw_fc_n ok I e2 e5 (fun _ => rfl)))
      · refine tw_c1 ?_
        simp (disch := omega) only [forall_eq, nI_add, nI_clamp, tw_in, true_and]
        exact hp _ (tw_fc_1k e ok I)
    · exact hp _ (tw_fc_n ok I e2 e5 (fun q => absurd q e0))
  | succ d ih =>
    intro i f hi' I
    have t5 := tw_th_lt ok (c := i) (by omega)
    refine br_f (nI_ge (by omega) (by omega)) (tw_xcp (by omega) (by omega) (by omega) (by omega) (by omega) ?_)
    simp (disch := omega) only [forall_eq, nI_add, nI_clamp, tw_in, true_and, nI_1]
    exact ih (i + 1) _ (by omega) (tw_J_s I (tw_J_f ok (by omega) I _ (by omega)))
theorem tw_xfc {r w : Nat} (hr : r ≤ 100) (hw : w < 8) (hP : P w < w) (ok : tw_ok (K w) (A w) (Z w) (W (P w)) (W w))
    (hp : ∀ f', tw_G ce f' (r * 40 + P w * 5) (W (P w)) (tw_tp (K w) (A w) (Z w) (nu w) b (fun c => ce (r * 40 + w * 5 + c)) (fun c => ce (r * 40 + P w * 5 + c))) → post (tw_X vs n P K A Z W nu dr pr f' rc)) :
    wpX_followChild post (tw_X vs n P K A Z W nu dr pr ce rc) (nI r) (nI w) (tw_b b) := by
  have ok' := ok
  unfold tw_ok at ok'
  refine ⟨vp_in_nI (by omega) (by omega), ?_⟩
  rw [nI_clamp (by omega)]
  refine tw_xcb (w := P w) (tw_xcb (tw_xcm hw (by omega) (by omega) ⟨tw_cm (K w) (W w) + 1, ?_⟩))
  exact tw_xfcl hw ok (by omega) (by omega) (by omega) hp _ 0 _ (by omega) tw_J_0
theorem tw_xcrl {s t : Nat} (hs : s + 40 ≤ 4040) (ht : t + 40 ≤ 4040) (hd : s + 40 ≤ t ∨ t + 40 ≤ s) (hp : ∀ f', tw_I ce t (fun i => ce (s + i)) 40 f' → post (tw_X vs n P K A Z W nu dr pr f' rc)) :
    ∀ d i f, i + d = 40 → tw_I ce t (fun i => ce (s + i)) i f → wX_copyRow_14 post (nI s) (nI t) (nI vs) (nI n) (d + 1) (nI i) (tw_f P) (tw_f K) (tw_f A) (tw_f Z) nu (tw_f W) dr pr f rc := by
  intro d
  induction d with
  | zero =>
    intro i f hi' I
    have ei : i = 40 := by omega
    subst ei
    exact br_t (Int32.le_refl _) (hp _ I)
  | succ d ih =>
    intro i f hi' I
    refine br_f (nI_ge (b := 40) (by omega) (by omega)) ?_
    simp (disch := omega) only [forall_eq, nI_add, nI_clamp, tw_in, true_and, nI_1]
    exact ih (i + 1) _ (by omega) (tw_I_s I (I.2 _ (by omega)))
theorem tw_xcr {s t : Nat} (hs : s ≤ 100) (ht : t ≤ 100) (hd : s ≠ t) (hp : ∀ f', tw_I ce (t * 40) (fun i => ce (s * 40 + i)) 40 f' → post (tw_X vs n P K A Z W nu dr pr f' rc)) :
    wpX_copyRow post (tw_X vs n P K A Z W nu dr pr ce rc) (nI s) (nI t) := by
  refine nm_r (tw_cr s) (nm_r (tw_cr t) ⟨41, ?_⟩)
  exact tw_xcrl (by omega) (by omega) (by omega) hp 40 0 _ rfl tw_I_0
/-! spread -/
theorem tw_xdn {r v : Nat} (hr : r ≤ 100) (hw : tw_wf vs P K A Z W) (hv : v < vs) {f1 : Nat → Int32} (U : tw_up vs v P K A Z W nu b (r * 40) ce 0 rc f1)
    (hp : ∀ f' rc', tw_path vs v P rc' → tw_fin vs v P K A Z W nu b rc' (tw_V (r * 40) ce) (tw_V (r * 40) f') → (∀ j, j < r * 40 ∨ r * 40 + 40 ≤ j → f' j = ce j) → post (tw_X vs n P K A Z W nu dr pr f' rc')) :
    ∀ d i f, i + d = vs → 0 < i → tw_dn vs P K A Z W nu b (r * 40) ce rc f1 i f → wX_spread_83 post (nI r) (tw_b b) (d + 1) (nI i) (nI vs) (nI n) (tw_f P) (tw_f K) (tw_f A) (tw_f Z) nu (tw_f W) dr pr f rc := by
  have h8 := hw.2.1
  intro d
  induction d with
  | zero =>
    intro i f hi' i0 I
    have ei : i = vs := by omega
    subst ei
    have q := tw_dn_e hw hv U I
    exact br_t (Int32.le_refl _) (hp _ _ q.1 q.2.1 q.2.2)
  | succ d ih =>
    intro i f hi' i0 I
    have hq := hw.2.2.2 i i0 (by omega)
    refine br_f (nI_ge (by omega) (by omega)) ⟨vp_in_nI (by omega) (by omega), ?_⟩
    rw [nI_clamp (by omega)]
    refine br_c (fun e => ?_) (fun e => ?_)
    · refine tw_xfp hr (by omega) hq.1 hq.2 (fun f' G => ?_)
      refine nm_r (nI_1 i) ?_
      exact ih (i + 1) f' (by omega) (by omega) (tw_dn_s hw I i0 (by omega) e G)
    · refine nm_r (nI_1 i) ?_
      have r1 : rc i = 1 := by
        rcases U.2.2.2.1 i (by omega) with q | q
        · exact absurd q e
        · exact q
      exact ih (i + 1) f (by omega) (by omega) (tw_dn_k I r1)
theorem tw_xup {r v : Nat} (hr : r ≤ 100) (hw : tw_wf vs P K A Z W) (hv : v < vs)
    (hp : ∀ f' rc', tw_path vs v P rc' → tw_fin vs v P K A Z W nu b rc' (tw_V (r * 40) ce) (tw_V (r * 40) f') → (∀ j, j < r * 40 ∨ r * 40 + 40 ≤ j → f' j = ce j) → post (tw_X vs n P K A Z W nu dr pr f' rc')) :
    ∀ d i h rc f, i + d = 8 → (h = 0 ∨ h + i ≤ 7) → tw_up vs v P K A Z W nu b (r * 40) ce h rc f → wX_spread_37 post (nI r) (tw_b b) (d + 1) (nI h) (nI i) (nI vs) (nI n) (tw_f P) (tw_f K) (tw_f A) (tw_f Z) nu (tw_f W) dr pr f rc := by
  have h8 := hw.2.1
  have h1 := hw.1
  intro d
  induction d with
  | zero =>
    intro i h rc f hi' hh I
    have eh : h = 0 := by omega
    subst eh
    refine br_t (nI_le (a := 8) (by omega) (by omega)) ⟨vs - 1 + 1, ?_⟩
    exact tw_xdn hr hw hv I hp (vs - 1) 1 f (by omega) (by omega) (tw_dn_0 I)
  | succ d ih =>
    intro i h rc f hi' hh I
    refine br_f (nI_ge (b := 8) (by omega) (by omega)) ?_
    by_cases h0 : h = 0
    · subst h0
      refine br_t (Int32.le_refl _) ⟨vs - 1 + 1, ?_⟩
      exact tw_xdn hr hw hv I hp (vs - 1) 1 f (by omega) (by omega) (tw_dn_0 I)
    · have hv' := I.1
      have hq := hw.2.2.2 h (by omega) (by omega)
      refine br_f (nI_nle (by omega) (by omega)) (tw_xfc hr (by omega) hq.1 hq.2 (fun f' G => ?_))
      simp (disch := omega) only [tw_X, forall_eq, nI_clamp, tw_f, tw_in, true_and, nI_1, tw_b1]
      exact ih (i + 1) (P h) _ f' (by omega) (by omega) (tw_up_s hw hv (by omega) I G)
theorem tw_xsp0 {r v : Nat} (hr : r ≤ 100) (hw : tw_wf vs P K A Z W) (hv : v < vs)
    (hp : ∀ f' rc', tw_path vs v P rc' → tw_fin vs v P K A Z W nu b rc' (tw_V (r * 40) ce) (tw_V (r * 40) f') → (∀ j, j < r * 40 ∨ r * 40 + 40 ≤ j → f' j = ce j) → post (tw_X vs n P K A Z W nu dr pr f' rc')) :
    ∀ d i rc, i + d = 8 → (∀ w, w < i → rc w = 0) → wX_spread_3 post (nI r) (nI v) (tw_b b) (nI vs) (nI n) (d + 1) (nI i) (tw_f P) (tw_f K) (tw_f A) (tw_f Z) nu (tw_f W) dr pr ce rc := by
  have h8 := hw.2.1
  intro d
  induction d with
  | zero =>
    intro i rc hi' I
    have ei : i = 8 := by omega
    subst ei
    refine br_t (Int32.le_refl _) ⟨vp_in_nI (by omega) (by omega), nm_r (e' := upd rc v 1) (by rw [nI_clamp (by omega), tw_b1]) ⟨9, ?_⟩⟩
    refine tw_xup hr hw hv hp 8 0 v _ ce rfl (by omega) (tw_up_0 (fun w hw' => ?_) hv)
    by_cases e : w = v
    · rw [e, pk_us, if_pos rfl]
    · rw [pk_un e, if_neg e]; exact I w (by omega)
  | succ d ih =>
    intro i rc hi' I
    refine br_f (nI_ge (b := 8) (by omega) (by omega)) ⟨vp_in_nI (by omega) (by omega), nm_r (e' := upd rc i 0) (by rw [nI_clamp (by omega), tw_b0]) (nm_r (nI_1 i) ?_)⟩
    refine ih (i + 1) _ (by omega) (fun w hw' => ?_)
    by_cases e : w = i
    · rw [e, pk_us]
    · rw [pk_un e]; exact I w (by omega)
theorem tw_xsp {r v : Nat} (hr : r ≤ 100) (hw : tw_wf vs P K A Z W) (hv : v < vs)
    (hp : ∀ f' rc', tw_path vs v P rc' → tw_fin vs v P K A Z W nu b rc' (tw_V (r * 40) ce) (tw_V (r * 40) f') → (∀ j, j < r * 40 ∨ r * 40 + 40 ≤ j → f' j = ce j) → post (tw_X vs n P K A Z W nu dr pr f' rc')) :
    wpX_spread post (tw_X vs n P K A Z W nu dr pr ce rc) (nI r) (nI v) (tw_b b) :=
  ⟨9, tw_xsp0 hr hw hv hp 8 0 rc rfl (fun w h => absurd h (Nat.not_lt_zero _))⟩
/-! fillVersion -/
def tw_fl (P K A Z W : Nat → Nat) (nu pr ce : Nat → Int32) (w i : Nat) (f : Nat → Int32) : Prop :=
  (∀ k, k < i → pr k ≠ 0 → ∀ c, c < W w → f (k * 40 + w * 5 + c) = tw_td (K w) (A w) (Z w) (nu w) (W w) true (fun c => ce (k * 40 + P w * 5 + c)) (fun c => ce (k * 40 + w * 5 + c)) c) ∧ (∀ k, i ≤ k → ∀ j, j < 40 → f (k * 40 + j) = ce (k * 40 + j)) ∧ (∀ k v, v < 8 → v ≠ w → ∀ c, c < 5 → f (k * 40 + v * 5 + c) = ce (k * 40 + v * 5 + c))
theorem tw_fl_s {w i : Nat} {f f' : Nat → Int32} (hw : w < 8) (hP : P w < w) (ok : tw_ok (K w) (A w) (Z w) (W (P w)) (W w)) (I : tw_fl P K A Z W nu pr ce w i f)
    (G : tw_G f f' (i * 40 + w * 5) (W w) (tw_td (K w) (A w) (Z w) (nu w) (W w) true (fun c => f (i * 40 + P w * 5 + c)) (fun c => f (i * 40 + w * 5 + c)))) : tw_fl P K A Z W nu pr ce w (i + 1) f' := by
  obtain ⟨a1, a2, a3⟩ := I
  have ok' := ok
  unfold tw_ok at ok'
  refine ⟨fun k hk hn c hc => ?_, fun k hk j hj => ?_, fun k v hv hne c hc => ?_⟩
  · by_cases e : k = i
    · subst e
      refine (G.1 c hc).trans (tw_td_c ok (fun c hc => ?_) (fun q => absurd q (by decide)) c hc)
      have := a2 k (Nat.le_refl _) (P w * 5 + c) (by omega)
      rw [← Nat.add_assoc] at this; exact this
    · rw [G.2 _ (by omega)]; exact a1 k (by omega) hn c hc
  · rw [G.2 _ (by omega)]; exact a2 k (by omega) j hj
  · rw [G.2 _ (by omega)]; exact a3 k v hv hne c hc
theorem tw_xfl {w : Nat} (hw : w < 8) (hP : P w < w) (ok : tw_ok (K w) (A w) (Z w) (W (P w)) (W w))
    (hp : ∀ f', tw_fl P K A Z W nu pr ce w 100 f' → post (tw_X vs n P K A Z W nu dr pr f' rc)) :
    ∀ d i f, i + d = 100 → tw_fl P K A Z W nu pr ce w i f → wX_fillVersion_2 post (nI w) (d + 1) (nI i) (nI vs) (nI n) (tw_f P) (tw_f K) (tw_f A) (tw_f Z) nu (tw_f W) dr pr f rc := by
  intro d
  induction d with
  | zero =>
    intro i f hi' I
    have ei : i = 100 := by omega
    subst ei
    exact br_t (Int32.le_refl _) (hp _ I)
  | succ d ih =>
    intro i f hi' I
    refine br_f (nI_ge (b := 100) (by omega) (by omega)) ⟨vp_in_nI (by omega) (by omega), ?_⟩
    rw [nI_clamp (by omega)]
    refine br_c (fun e => nm_r (nI_1 i) ?_) (fun e => ?_)
    · refine ih (i + 1) f (by omega) ⟨fun k hk hn c hc => ?_, fun k hk => I.2.1 k (by omega), I.2.2⟩
      by_cases q : k = i
      · subst q; exact absurd e hn
      · exact I.1 k (by omega) hn c hc
    · refine tw_xfp (b := true) (by omega) hw hP ok (fun f' G => ?_)
      refine nm_r (nI_1 i) ?_
      exact ih (i + 1) f' (by omega) (tw_fl_s hw hP ok I G)
theorem tw_xfv {w : Nat} (hw : w < 8) (hP : P w < w) (ok : tw_ok (K w) (A w) (Z w) (W (P w)) (W w))
    (hp : ∀ f', tw_fl P K A Z W nu pr ce w 100 f' → post (tw_X vs n P K A Z W nu dr pr f' rc)) : wpX_fillVersion post (tw_X vs n P K A Z W nu dr pr ce rc) (nI w) :=
  ⟨101, tw_xfl hw hP ok hp 100 0 ce rfl ⟨fun k h => absurd h (Nat.not_lt_zero _), fun _ _ _ _ => rfl, fun _ _ _ _ _ _ => rfl⟩⟩
end
