/-! SchemaTwins: the relation of the rows, and how it is kept -/
def tw_un (f : Nat → Nat) (k x : Nat) : Nat → Nat := fun j => if j = k then x else f j
theorem tw_un_s {f : Nat → Nat} {k x : Nat} : tw_un f k x k = x := if_pos rfl
theorem tw_un_n {f : Nat → Nat} {k x j : Nat} (h : j ≠ k) : tw_un f k x j = f j := if_neg h
theorem tw_unI (f : Nat → Nat) (k x : Nat) : upd (fun w => nI (f w)) k (nI x) = fun w => nI (tw_un f k x w) := by
  funext j
  by_cases e : j = k
  · subst e; rw [pk_us, tw_un_s]
  · rw [pk_un e, tw_un_n e]
/-- keys of the rows, the keys that are there, the rows' values on both sides -/
def tw_keys (n : Nat) (KY : Nat → Nat) (pr ky : Nat → Int32) : Prop :=
  n ≤ 12 ∧ (∀ r, r < n → ky r = nI (KY r) ∧ KY r < 100) ∧ (∀ q r, q < r → r < n → KY q < KY r) ∧ ∀ k, k < 100 → (pr k = 1 ∧ ∃ r, r < n ∧ KY r = k) ∨ (pr k = 0 ∧ ∀ r, r < n → KY r ≠ k)
def tw_vals (vs n : Nat) (W KY : Nat → Nat) (ce va : Nat → Int32) : Prop :=
  ∀ r, r < n → ∀ w, w < vs → ∀ c, c < W w → ce (KY r * 40 + w * 5 + c) = va (40 * r + 5 * w + c)
theorem tw_inj {n : Nat} {KY : Nat → Nat} (hs : ∀ q r, q < r → r < n → KY q < KY r) {q r : Nat} (hq : q < n) (hr : r < n) (e : KY q = KY r) : q = r := by
  by_cases h : q < r
  · have := hs q r h hr; omega
  · by_cases h2 : r < q
    · have := hs r q h2 hq; omega
    · omega
/-! insert -/
def tw_ki (KY : Nat → Nat) (a key : Nat) : Nat → Nat := fun r => if r < a then KY r else if r = a then key else KY (r - 1)
theorem tw_ki_l {KY : Nat → Nat} {a key r : Nat} (h : r < a) : tw_ki KY a key r = KY r := if_pos h
theorem tw_ki_e {KY : Nat → Nat} {a key : Nat} : tw_ki KY a key a = key := by unfold tw_ki; rw [if_neg (Nat.lt_irrefl _), if_pos rfl]
theorem tw_ki_g {KY : Nat → Nat} {a key r : Nat} (h : a ≤ r) : tw_ki KY a key (r + 1) = KY r := by
  unfold tw_ki; rw [if_neg (by omega), if_neg (by omega), Nat.add_sub_cancel]
theorem tw_keys_i {n a key : Nat} {KY : Nat → Nat} {pr ky ky' : Nat → Int32} (h : tw_keys n KY pr ky) (hn : n < 12) (hk : key < 100) (ha : a ≤ n) (h1 : ∀ r, r < a → KY r < key) (h2 : ∀ r, a ≤ r → r < n → key < KY r)
    (e1 : ∀ r, r < a → ky' r = ky r) (e2 : ky' a = nI key) (e3 : ∀ r, a ≤ r → r < n → ky' (r + 1) = ky r) : tw_keys (n + 1) (tw_ki KY a key) (upd pr key 1) ky' := by
  obtain ⟨g1, g2, g3, g4⟩ := h
  have cs : ∀ r, r < n + 1 → r < a ∨ r = a ∨ ∃ q, r = q + 1 ∧ a ≤ q ∧ q < n := by
    intro r hr
    by_cases z : r < a
    · exact Or.inl z
    · by_cases z2 : r = a
      · exact Or.inr (Or.inl z2)
      · exact Or.inr (Or.inr ⟨r - 1, by omega, by omega, by omega⟩)
  refine ⟨by omega, fun r hr => ?_, fun q r hq hr => ?_, fun k hk' => ?_⟩
  · rcases cs r hr with z | z | ⟨q, z, z1, z2⟩
    · rw [tw_ki_l z, e1 r z]; exact g2 r (by omega)
    · subst z; rw [tw_ki_e, e2]; exact ⟨rfl, hk⟩
    · subst z; rw [tw_ki_g z1, e3 q z1 z2]; exact g2 q z2
  · rcases cs r hr with z | z | ⟨p, z, z1, z2⟩
    · rw [tw_ki_l z, tw_ki_l (by omega)]; exact g3 q r hq (by omega)
    · subst z; rw [tw_ki_e, tw_ki_l hq]; exact h1 q hq
    · subst z; rw [tw_ki_g z1]
      rcases cs q (by omega) with y | y | ⟨p', y, y1, y2⟩
      · rw [tw_ki_l y]; exact g3 q p (by omega) z2
      · subst y; rw [tw_ki_e]; exact h2 p z1 z2
      · subst y; rw [tw_ki_g y1]; exact g3 p' p (by omega) z2
  · by_cases e : k = key
    · subst e; exact Or.inl ⟨pk_us, a, by omega, tw_ki_e⟩
    · rw [pk_un e]
      rcases g4 k hk' with ⟨b1, r, b2, b3⟩ | ⟨b1, b2⟩
      · refine Or.inl ⟨b1, ?_⟩
        by_cases z : r < a
        · exact ⟨r, by omega, by rw [tw_ki_l z]; exact b3⟩
        · exact ⟨r + 1, by omega, by rw [tw_ki_g (by omega)]; exact b3⟩
      · refine Or.inr ⟨b1, fun r hr => ?_⟩
        rcases cs r hr with z | z | ⟨q, z, z1, z2⟩
        · rw [tw_ki_l z]; exact b2 r (by omega)
        · subst z; rw [tw_ki_e]; exact fun q => e q.symm
        · subst z; rw [tw_ki_g z1]; exact b2 q z2
theorem tw_vals_i {vs n a key : Nat} {W KY : Nat → Nat} {ce va ce' va' : Nat → Int32} {B D : Nat} (hv : tw_vals vs n W KY ce va) (h8 : vs ≤ 8) (hW : ∀ w, w < vs → W w ≤ 5) (ha : a ≤ n) (hne : ∀ r, r < n → KY r ≠ key)
    (x1 : ∀ i, i < 40 → ce' (key * 40 + i) = ce (B + i)) (x2 : ∀ k, k ≠ key → k < 100 → ∀ i, i < 40 → ce' (k * 40 + i) = ce (k * 40 + i)) (hk : ∀ r, r < n → KY r < 100)
    (y1 : ∀ r, r < a → ∀ i, i < 40 → va' (40 * r + i) = va (40 * r + i)) (y2 : ∀ i, i < 40 → va' (40 * a + i) = va (D + i)) (y3 : ∀ r, a ≤ r → r < n → ∀ i, i < 40 → va' (40 * (r + 1) + i) = va (40 * r + i))
    (t : ∀ w, w < vs → ∀ c, c < W w → ce (B + w * 5 + c) = va (D + 5 * w + c)) : tw_vals vs (n + 1) W (tw_ki KY a key) ce' va' := by
  intro r hr w hw c hc
  have hc5 := hW w hw
  by_cases z : r < a
  · have := x2 (KY r) (hne r (by omega)) (hk r (by omega)) (w * 5 + c) (by omega)
    rw [tw_ki_l z, Nat.add_assoc, this, Nat.add_assoc, y1 r z (5 * w + c) (by omega), ← Nat.add_assoc, ← Nat.add_assoc]
    exact hv r (by omega) w hw c hc
  · by_cases z2 : r = a
    · subst z2
      rw [tw_ki_e, Nat.add_assoc, x1 (w * 5 + c) (by omega), Nat.add_assoc, y2 (5 * w + c) (by omega), ← Nat.add_assoc, ← Nat.add_assoc]
      exact t w hw c hc
    · obtain ⟨q, rfl⟩ : ∃ q, r = q + 1 := ⟨r - 1, by omega⟩
      have := x2 (KY q) (hne q (by omega)) (hk q (by omega)) (w * 5 + c) (by omega)
      rw [tw_ki_g (by omega), Nat.add_assoc, this, Nat.add_assoc, y3 q (by omega) (by omega) (5 * w + c) (by omega), ← Nat.add_assoc, ← Nat.add_assoc]
      exact hv q (by omega) w hw c hc
/-! delete -/
def tw_kd (KY : Nat → Nat) (a : Nat) : Nat → Nat := fun r => if r < a then KY r else KY (r + 1)
theorem tw_kd_l {KY : Nat → Nat} {a r : Nat} (h : r < a) : tw_kd KY a r = KY r := if_pos h
theorem tw_kd_g {KY : Nat → Nat} {a r : Nat} (h : a ≤ r) : tw_kd KY a r = KY (r + 1) := if_neg (by omega)
theorem tw_keys_d {n a : Nat} {KY : Nat → Nat} {pr ky ky' : Nat → Int32} (h : tw_keys (n + 1) KY pr ky) (ha : a ≤ n)
    (e1 : ∀ r, r < a → ky' r = ky r) (e3 : ∀ r, a ≤ r → r < n → ky' r = ky (r + 1)) : tw_keys n (tw_kd KY a) (upd pr (KY a) 0) ky' := by
  obtain ⟨g1, g2, g3, g4⟩ := h
  refine ⟨by omega, fun r hr => ?_, fun q r hq hr => ?_, fun k hk' => ?_⟩
  · by_cases z : r < a
    · rw [tw_kd_l z, e1 r z]; exact g2 r (by omega)
    · rw [tw_kd_g (by omega), e3 r (by omega) hr]; exact g2 (r + 1) (by omega)
  · by_cases z : r < a
    · rw [tw_kd_l z, tw_kd_l (by omega)]; exact g3 q r hq (by omega)
    · rw [tw_kd_g (r := r) (by omega)]
      by_cases y : q < a
      · rw [tw_kd_l y]; exact g3 q (r + 1) (by omega) (by omega)
      · rw [tw_kd_g (by omega)]; exact g3 (q + 1) (r + 1) (by omega) (by omega)
  · by_cases e : k = KY a
    · subst e
      refine Or.inr ⟨pk_us, fun r hr q => ?_⟩
      by_cases z : r < a
      · rw [tw_kd_l z] at q; have := tw_inj g3 (by omega) (by omega) q; omega
      · rw [tw_kd_g (by omega)] at q; have := tw_inj g3 (by omega) (by omega) q; omega
    · rw [pk_un e]
      rcases g4 k hk' with ⟨b1, r, b2, b3⟩ | ⟨b1, b2⟩
      · refine Or.inl ⟨b1, ?_⟩
        by_cases z : r < a
        · exact ⟨r, by omega, by rw [tw_kd_l z]; exact b3⟩
        · have : r ≠ a := by
            intro q; subst q; exact e b3.symm
          obtain ⟨p, rfl⟩ : ∃ p, r = p + 1 := ⟨r - 1, by omega⟩
          exact ⟨p, by omega, by rw [tw_kd_g (by omega)]; exact b3⟩
      · refine Or.inr ⟨b1, fun r hr => ?_⟩
        by_cases z : r < a
        · rw [tw_kd_l z]; exact b2 r (by omega)
        · rw [tw_kd_g (by omega)]; exact b2 (r + 1) (by omega)
theorem tw_vals_d {vs n a : Nat} {W KY : Nat → Nat} {ce va va' : Nat → Int32} (hv : tw_vals vs (n + 1) W KY ce va) (h8 : vs ≤ 8) (hW : ∀ w, w < vs → W w ≤ 5) (ha : a ≤ n)
    (y1 : ∀ r, r < a → ∀ i, i < 40 → va' (40 * r + i) = va (40 * r + i)) (y3 : ∀ r, a ≤ r → r < n → ∀ i, i < 40 → va' (40 * r + i) = va (40 * (r + 1) + i)) : tw_vals vs n W (tw_kd KY a) ce va' := by
  intro r hr w hw c hc
  have hc5 := hW w hw
  by_cases z : r < a
  · have := hv r (by omega) w hw c hc
    rw [tw_kd_l z, this, Nat.add_assoc, y1 r z (5 * w + c) (by omega)]
  · have := hv (r + 1) (by omega) w hw c hc
    rw [tw_kd_g (by omega), this, Nat.add_assoc (40 * r), y3 r (by omega) hr (5 * w + c) (by omega), Nat.add_assoc]
/-! update -/
theorem tw_vals_u {vs n a : Nat} {W KY : Nat → Nat} {ce va ce' va' : Nat → Int32} {B D : Nat} (hv : tw_vals vs n W KY ce va) (h8 : vs ≤ 8) (hW : ∀ w, w < vs → W w ≤ 5) (hs : ∀ q r, q < r → r < n → KY q < KY r) (hk : ∀ r, r < n → KY r < 100) (ha : a < n)
    (x1 : ∀ i, i < 40 → ce' (KY a * 40 + i) = ce (B + i)) (x2 : ∀ k, k ≠ KY a → k < 100 → ∀ i, i < 40 → ce' (k * 40 + i) = ce (k * 40 + i))
    (y1 : ∀ r, r ≠ a → r < 12 → ∀ i, i < 40 → va' (40 * r + i) = va (40 * r + i)) (y2 : ∀ i, i < 40 → va' (40 * a + i) = va (D + i)) (hn : n ≤ 12)
    (t : ∀ w, w < vs → ∀ c, c < W w → ce (B + w * 5 + c) = va (D + 5 * w + c)) : tw_vals vs n W KY ce' va' := by
  intro r hr w hw c hc
  have hc5 := hW w hw
  by_cases z : r = a
  · subst z
    rw [Nat.add_assoc, x1 (w * 5 + c) (by omega), Nat.add_assoc, y2 (5 * w + c) (by omega), ← Nat.add_assoc, ← Nat.add_assoc]
    exact t w hw c hc
  · have := x2 (KY r) (fun q => z (tw_inj hs hr ha q)) (hk r hr) (w * 5 + c) (by omega)
    rw [Nat.add_assoc, this, Nat.add_assoc, y1 r z (by omega) (5 * w + c) (by omega), ← Nat.add_assoc, ← Nat.add_assoc]
    exact hv r hr w hw c hc
/-! edit -/
theorem tw_wf_e {vs v k x z wc : Nat} {P K A Z W : Nat → Nat} (h : tw_wf vs P K A Z W) (h8 : vs < 8) (hv : v < vs) (ho : tw_ok k x z (W v) wc) : tw_wf (vs + 1) (tw_un P vs v) (tw_un K vs k) (tw_un A vs x) (tw_un Z vs z) (tw_un W vs wc) := by
  obtain ⟨g1, g2, g3, g4⟩ := h
  refine ⟨by omega, by omega, fun w hw => ?_, fun w w0 w1 => ?_⟩
  · by_cases e : w = vs
    · subst e; rw [tw_un_s]; exact ho.2.2.1
    · rw [tw_un_n e]; exact g3 w (by omega)
  · by_cases e : w = vs
    · subst e
      rw [tw_un_s, tw_un_s, tw_un_s, tw_un_s, tw_un_s, tw_un_n (by omega)]
      exact ⟨hv, ho⟩
    · have := g4 w w0 (by omega)
      rw [tw_un_n e, tw_un_n e, tw_un_n e, tw_un_n e, tw_un_n e, tw_un_n (by omega)]
      exact this
theorem tw_wf_r {vs : Nat} {P K A Z W : Nat → Nat} (h : tw_wf (vs + 1) P K A Z W) (h1 : 1 ≤ vs) : tw_wf vs P K A Z W := by
  obtain ⟨g1, g2, g3, g4⟩ := h
  exact ⟨h1, by omega, fun w hw => g3 w (by omega), fun w w0 w1 => g4 w w0 (by omega)⟩
theorem tw_vals_e {vs v n k x z wc : Nat} {y : Int32} {W KY : Nat → Nat} {ce va ce' va' : Nat → Int32} (hv : tw_vals vs n W KY ce va) (h8 : vs < 8) (hv0 : v < vs) (hW : ∀ w, w < vs → W w ≤ 5) (ho : tw_ok k x z (W v) wc) 
    (x1 : ∀ r, r < n → ∀ c, c < wc → ce' (KY r * 40 + vs * 5 + c) = tw_td k x z y wc true (fun c => ce (KY r * 40 + v * 5 + c)) (fun c => ce (KY r * 40 + vs * 5 + c)) c)
    (x2 : ∀ r, r < n → ∀ w, w < vs → ∀ c, c < 5 → ce' (KY r * 40 + w * 5 + c) = ce (KY r * 40 + w * 5 + c))
    (y1 : ∀ r, r < n → ∀ c, c < wc → va' (40 * r + 5 * vs + c) = tw_td k x z y wc true (fun c => va (40 * r + 5 * v + c)) (fun c => va (40 * r + 5 * vs + c)) c)
    (y2 : ∀ r, r < n → ∀ w, w < vs → ∀ c, c < 5 → va' (40 * r + 5 * w + c) = va (40 * r + 5 * w + c)) : tw_vals (vs + 1) n (tw_un W vs wc) KY ce' va' := by
  intro r hr w hw c hc
  by_cases e : w = vs
  · subst e
    rw [tw_un_s] at hc
    rw [x1 r hr c hc, y1 r hr c hc]
    exact tw_td_c ho (fun c hc => hv r hr v hv0 c hc) (fun q => absurd q (by decide)) c hc
  · rw [tw_un_n e] at hc
    have := hW w (by omega)
    rw [x2 r hr w (by omega) c (by omega), y2 r hr w (by omega) c (by omega)]
    exact hv r hr w (by omega) c hc
