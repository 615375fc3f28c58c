/-! SchemaTwins: how the component spreads a row: up to version 0, then down to all others -/
/-- a row's value in version w, column c, component and reference -/
def tw_V (B : Nat) (a : Nat → Int32) (w c : Nat) : Int32 := a (B + w * 5 + c)
def tw_Y (D : Nat) (a : Nat → Int32) (w c : Nat) : Int32 := a (D + 5 * w + c)
def tw_up (vs v : Nat) (P K A Z W : Nat → Nat) (num : Nat → Int32) (b : Bool) (B : Nat) (ce : Nat → Int32) (h : Nat) (rc f : Nat → Int32) : Prop :=
  h ≤ v ∧ rc h = 1 ∧ rc v = 1 ∧ (∀ w, w < vs → rc w = 0 ∨ rc w = 1) ∧ (∀ w, w < vs → rc w = 1 → h ≤ w ∧ w ≤ v) ∧
  (∀ w, w < vs → rc w = 1 → w ≠ h → rc (P w) = 1 ∧ ∀ c, c < W (P w) → tw_V B f (P w) c = tw_tp (K w) (A w) (Z w) (num w) b (tw_V B f w) (tw_V B ce (P w)) c) ∧
  (∀ w w', w < vs → w' < vs → rc w = 1 → rc w' = 1 → w ≠ h → w' ≠ h → P w = P w' → w = w') ∧
  (∀ c, c < W v → tw_V B f v c = tw_V B ce v c) ∧ (∀ w, w < vs → rc w = 0 → ∀ c, c < 5 → tw_V B f w c = tw_V B ce w c) ∧ (∀ j, j < B ∨ B + 40 ≤ j → f j = ce j)
theorem tw_G_V {B p n : Nat} {f f' g : Nat → Int32} (h : tw_G f f' (B + p * 5) n g) {w c : Nat} (hw : w ≠ p) (hc : c < 5) : tw_V B f' w c = tw_V B f w c := h.2 _ (by omega)
theorem tw_G_Y {B p n : Nat} {f f' g : Nat → Int32} (h : tw_G f f' (B + 5 * p) n g) {w c : Nat} (hw : w ≠ p) (hc : c < 5) : tw_Y B f' w c = tw_Y B f w c := h.2 _ (by omega)
theorem tw_up_0 {vs v : Nat} {P K A Z W : Nat → Nat} {num : Nat → Int32} {b : Bool} {B : Nat} {ce rc : Nat → Int32} (hr : ∀ w, w < vs → rc w = if w = v then 1 else 0) (hv : v < vs) : tw_up vs v P K A Z W num b B ce v rc ce := by
  have r1 : rc v = 1 := by rw [hr v hv, if_pos rfl]
  have r2 : ∀ w, w < vs → rc w = 1 → w = v := by
    intro w hw k
    by_cases e : w = v
    · exact e
    · rw [hr w hw, if_neg e] at k; exact absurd k tw_01
  refine ⟨Nat.le_refl _, r1, r1, fun w hw => ?_, fun w hw k => ?_, fun w hw k n => absurd (r2 w hw k) n, fun w w' hw hw' k k' n => absurd (r2 w hw k) n, fun _ _ => rfl, fun _ _ _ _ _ => rfl, fun _ _ => rfl⟩
  · by_cases e : w = v
    · subst e; exact Or.inr r1
    · rw [hr w hw, if_neg e]; exact Or.inl rfl
  · have := r2 w hw k; omega
theorem tw_up_s {vs v : Nat} {P K A Z W : Nat → Nat} {num : Nat → Int32} {b : Bool} {B h : Nat} {ce rc f f' : Nat → Int32} (hw : tw_wf vs P K A Z W) (hv : v < vs) (h0 : 0 < h) (I : tw_up vs v P K A Z W num b B ce h rc f)
    (G : tw_G f f' (B + P h * 5) (W (P h)) (tw_tp (K h) (A h) (Z h) (num h) b (fun c => f (B + h * 5 + c)) (fun c => f (B + P h * 5 + c)))) : tw_up vs v P K A Z W num b B ce (P h) (upd rc (P h) 1) f' := by
  obtain ⟨a1, a2, a3, a4, a5, a6, a7, a8, a9, a10⟩ := I
  have hq := hw.2.2.2 h h0 (by omega)
  have h8 := hw.2.1
  have p0 : rc (P h) = 0 := by
    rcases a4 (P h) (by omega) with q | q
    · exact q
    · have := (a5 (P h) (by omega) q).1; omega
  have W5 : ∀ w, w < vs → ∀ c, c < W w → c < 5 := fun w hw' c hc => by have := (hw.2.2.1 w hw').2; omega
  have pick : ∀ w, w ≠ P h → upd rc (P h) 1 w = 1 → rc w = 1 := fun w n k => by rw [pk_un n] at k; exact k
  refine ⟨by omega, pk_us, ?_, fun w hw' => ?_, fun w hw' k => ?_, fun w hw' k n => ?_, fun w w' hw1 hw2 k k' n n' e => ?_, fun c hc => ?_, fun w hw' k c hc => ?_, fun j hj => ?_⟩
  · rw [pk_un (by omega)]; exact a3
  · by_cases e : w = P h
    · rw [e]; exact Or.inr pk_us
    · rw [pk_un e]; exact a4 w hw'
  · by_cases e : w = P h
    · omega
    · have := a5 w hw' (pick w e k); omega
  · have k1 := pick w n k
    by_cases e : w = h
    · subst e
      refine ⟨pk_us, fun c hc => ?_⟩
      refine (G.1 c hc).trans (tw_tp_c hq.2 (fun c hc => ?_) (fun _ c hc => ?_) c hc)
      · exact (tw_G_V G (w := w) (by omega) (W5 w hw' c hc)).symm
      · exact a9 (P w) (by omega) p0 c (W5 (P w) (by omega) c hc)
    · have b1 := a6 w hw' k1 e
      have hw0 : 0 < w := by have := a5 w hw' k1; omega
      have hqw := hw.2.2.2 w hw0 hw'
      have ne : P w ≠ P h := by
        intro q
        have := b1.1
        rw [q, p0] at this; exact absurd this tw_01
      refine ⟨by rw [pk_un ne]; exact b1.1, fun c hc => ?_⟩
      rw [tw_G_V G ne (W5 (P w) (by omega) c hc), b1.2 c hc]
      exact tw_tp_c hqw.2 (fun c hc => (tw_G_V G n (W5 w hw' c hc)).symm) (fun _ c hc => rfl) c hc
  · have k1 := pick w n k
    have k2 := pick w' n' k'
    by_cases e1 : w = h
    · by_cases e2 : w' = h
      · omega
      · have := (a6 w' hw2 k2 e2).1
        rw [← e, e1, p0] at this; exact absurd this tw_01
    · by_cases e2 : w' = h
      · have := (a6 w hw1 k1 e1).1
        rw [e, e2, p0] at this; exact absurd this tw_01
      · exact a7 w w' hw1 hw2 k1 k2 e1 e2 e
  · rw [tw_G_V G (by omega) (W5 v hv c hc)]; exact a8 c hc
  · have n : w ≠ P h := by
      intro q; rw [q, pk_us] at k; exact tw_10 k
    rw [pk_un n] at k
    rw [tw_G_V G n hc]; exact a9 w hw' k c hc
  · rw [G.2 j (by omega)]; exact a10 j hj
def tw_dn (vs : Nat) (P K A Z W : Nat → Nat) (num : Nat → Int32) (b : Bool) (B : Nat) (ce rc f1 : Nat → Int32) (i : Nat) (f : Nat → Int32) : Prop :=
  (∀ w, w < vs → rc w = 1 → ∀ c, c < 5 → tw_V B f w c = tw_V B f1 w c) ∧ (∀ w, 0 < w → w < vs → w < i → rc w = 0 → ∀ c, c < W w → tw_V B f w c = tw_td (K w) (A w) (Z w) (num w) (W w) b (tw_V B f (P w)) (tw_V B ce w) c) ∧ (∀ w, i ≤ w → w < vs → rc w = 0 → ∀ c, c < 5 → tw_V B f w c = tw_V B ce w c) ∧ (∀ j, j < B ∨ B + 40 ≤ j → f j = ce j)
theorem tw_dn_0 {vs v : Nat} {P K A Z W : Nat → Nat} {num : Nat → Int32} {b : Bool} {B : Nat} {ce rc f : Nat → Int32} (I : tw_up vs v P K A Z W num b B ce 0 rc f) : tw_dn vs P K A Z W num b B ce rc f 1 f := by
  obtain ⟨a1, a2, a3, a4, a5, a6, a7, a8, a9, a10⟩ := I
  exact ⟨fun _ _ _ _ _ => rfl, fun w h0 _ h1 => absurd h0 (by omega), fun w _ hw k c hc => a9 w hw k c hc, a10⟩
theorem tw_dn_k {vs : Nat} {P K A Z W : Nat → Nat} {num : Nat → Int32} {b : Bool} {B i : Nat} {ce rc f1 f : Nat → Int32} (I : tw_dn vs P K A Z W num b B ce rc f1 i f) (hr : rc i = 1) : tw_dn vs P K A Z W num b B ce rc f1 (i + 1) f := by
  obtain ⟨a1, a2, a3, a4⟩ := I
  refine ⟨a1, fun w w0 w1 w2 k c hc => ?_, fun w h hw k c hc => a3 w (by omega) hw k c hc, a4⟩
  have : w ≠ i := by
    intro q; subst q; rw [hr] at k; exact tw_10 k
  exact a2 w w0 w1 (by omega) k c hc
theorem tw_dn_s {vs : Nat} {P K A Z W : Nat → Nat} {num : Nat → Int32} {b : Bool} {B i : Nat} {ce rc f1 f f' : Nat → Int32} (hw : tw_wf vs P K A Z W) (I : tw_dn vs P K A Z W num b B ce rc f1 i f) (i0 : 0 < i) (i1 : i < vs) (hr : rc i = 0)
    (G : tw_G f f' (B + i * 5) (W i) (tw_td (K i) (A i) (Z i) (num i) (W i) b (fun c => f (B + P i * 5 + c)) (fun c => f (B + i * 5 + c)))) : tw_dn vs P K A Z W num b B ce rc f1 (i + 1) f' := by
  obtain ⟨a1, a2, a3, a4⟩ := I
  have h8 := hw.2.1
  have W5 : ∀ w, w < vs → ∀ c, c < W w → c < 5 := fun w hw' c hc => by have := (hw.2.2.1 w hw').2; omega
  refine ⟨fun w w1 k c hc => ?_, fun w w0 w1 w2 k c hc => ?_, fun w h w1 k c hc => ?_, fun j hj => ?_⟩
  · have n : w ≠ i := by
      intro q; subst q; rw [hr] at k; exact tw_01 k
    rw [tw_G_V G n hc]; exact a1 w w1 k c hc
  · have hq := hw.2.2.2 w w0 w1
    by_cases e : w = i
    · subst e
      refine (G.1 c hc).trans (tw_td_c hq.2 (fun c hc => ?_) (fun _ c hc => ?_) c hc)
      · exact (tw_G_V G (w := P w) (by omega) (W5 (P w) (by omega) c hc)).symm
      · exact a3 w (Nat.le_refl _) w1 hr c (W5 w w1 c hc)
    · rw [tw_G_V G e (W5 w w1 c hc), a2 w w0 w1 (by omega) k c hc]
      exact tw_td_c hq.2 (fun c hc => (tw_G_V G (w := P w) (by omega) (W5 (P w) (by omega) c hc)).symm) (fun _ c hc => rfl) c hc
  · rw [tw_G_V G (by omega) hc]; exact a3 w (by omega) w1 k c hc
  · rw [G.2 j (by omega)]; exact a4 j hj
theorem tw_dn_e {vs v : Nat} {P K A Z W : Nat → Nat} {num : Nat → Int32} {b : Bool} {B : Nat} {ce rc f1 f : Nat → Int32} (hw : tw_wf vs P K A Z W) (hv : v < vs) (U : tw_up vs v P K A Z W num b B ce 0 rc f1) (I : tw_dn vs P K A Z W num b B ce rc f1 vs f) :
    tw_path vs v P rc ∧ tw_fin vs v P K A Z W num b rc (tw_V B ce) (tw_V B f) ∧ ∀ j, j < B ∨ B + 40 ≤ j → f j = ce j := by
  obtain ⟨a1, a2, a3, a4, a5, a6, a7, a8, a9, a10⟩ := U
  obtain ⟨b1, b2, b3, b4⟩ := I
  have W5 : ∀ w, w < vs → ∀ c, c < W w → c < 5 := fun w hw' c hc => by have := (hw.2.2.1 w hw').2; omega
  refine ⟨⟨a4, a3, fun w w0 w1 k => ⟨(a6 w w1 k (by omega)).1, ?_⟩, fun w w' w0 w1 w0' w1' k k' e => a7 w w' w1 w1' k k' (by omega) (by omega) e⟩, ⟨fun c hc => ?_, fun w w0 w1 => ⟨fun k c hc => ?_, fun k c hc => b2 w w0 w1 w1 k c hc⟩⟩, b4⟩
  · have := hw.2.2.2 w w0 w1
    have := a5 w w1 k
    omega
  · rw [b1 v hv a3 c (W5 v hv c hc)]; exact a8 c hc
  · have hq := hw.2.2.2 w w0 w1
    have q := a6 w w1 k (by omega)
    rw [b1 (P w) (by omega) q.1 c (W5 (P w) (by omega) c hc), q.2 c hc]
    exact tw_tp_c hq.2 (fun c hc => (b1 w w1 k c (W5 w w1 c hc)).symm) (fun _ c hc => rfl) c hc
