/-! SchemaTwins: the reference's rows move up at an insert, down at a delete -/
def tw_sh (n key : Nat) (KY : Nat → Nat) (ky va : Nat → Int32) (a : Nat) (ky' va' : Nat → Int32) : Prop :=
  a ≤ n ∧ (∀ r, a ≤ r → r < n → key < KY r) ∧ (∀ r, r < a → ky' r = ky r ∧ ∀ i, i < 40 → va' (40 * r + i) = va (40 * r + i)) ∧ (∀ r, a ≤ r → r < n → ky' (r + 1) = ky r ∧ ∀ i, i < 40 → va' (40 * (r + 1) + i) = va (40 * r + i)) ∧ (∀ i, i < 40 → va' (480 + i) = va (480 + i))
theorem tw_sh_0 {n key : Nat} {KY : Nat → Nat} {ky va : Nat → Int32} : tw_sh n key KY ky va n ky va :=
  ⟨Nat.le_refl _, fun r h1 h2 => absurd h2 (by omega), fun _ _ => ⟨rfl, fun _ _ => rfl⟩, fun r h1 h2 => absurd h2 (by omega), fun _ _ => rfl⟩
theorem tw_sh_s {n key a : Nat} {KY : Nat → Nat} {ky va ky' va' va2 : Nat → Int32} (h : tw_sh n key KY ky va (a + 1) ky' va') (hn : n < 12) (hk : key < KY a) (C : tw_I va' (40 * (a + 1)) (fun i => va' (40 * a + i)) 40 va2) : tw_sh n key KY ky va a (upd ky' (a + 1) (ky' a)) va2 := by
  obtain ⟨a1, a2, a3, a4, a5⟩ := h
  refine ⟨by omega, fun r h1 h2 => ?_, fun r hr => ⟨?_, fun i hi => ?_⟩, fun r h1 h2 => ⟨?_, fun i hi => ?_⟩, fun i hi => ?_⟩
  · by_cases e : r = a
    · rw [e]; exact hk
    · exact a2 r (by omega) h2
  · rw [pk_un (by omega)]; exact (a3 r (by omega)).1
  · rw [C.2 _ (by omega)]; exact (a3 r (by omega)).2 i hi
  · by_cases e : r = a
    · rw [e, pk_us]; exact (a3 a (by omega)).1
    · rw [pk_un (by omega)]; exact (a4 r (by omega) h2).1
  · by_cases e : r = a
    · rw [e]; exact (C.1 i hi).trans ((a3 a (by omega)).2 i hi)
    · rw [C.2 _ (by omega)]; exact (a4 r (by omega) h2).2 i hi
  · rw [C.2 _ (by omega)]; exact a5 i hi
def tw_sd (n a : Nat) (ky va : Nat → Int32) (k : Nat) (ky' va' : Nat → Int32) : Prop :=
  a ≤ k ∧ k ≤ n ∧ (∀ r, r < a → ky' r = ky r ∧ ∀ i, i < 40 → va' (40 * r + i) = va (40 * r + i)) ∧ (∀ r, a ≤ r → r < k → ky' r = ky (r + 1) ∧ ∀ i, i < 40 → va' (40 * r + i) = va (40 * (r + 1) + i)) ∧ (∀ r, k ≤ r → r < 12 → ky' r = ky r ∧ ∀ i, i < 40 → va' (40 * r + i) = va (40 * r + i))
theorem tw_sd_0 {n a : Nat} {ky va : Nat → Int32} (h : a ≤ n) : tw_sd n a ky va a ky va :=
  ⟨Nat.le_refl _, h, fun _ _ => ⟨rfl, fun _ _ => rfl⟩, fun r h1 h2 => absurd h2 (by omega), fun _ _ _ => ⟨rfl, fun _ _ => rfl⟩⟩
theorem tw_sd_s {n a k : Nat} {ky va ky' va' va2 : Nat → Int32} (h : tw_sd n a ky va k ky' va') (hn : n < 12) (hk : k < n) (C : tw_I va' (40 * k) (fun i => va' (40 * (k + 1) + i)) 40 va2) : tw_sd n a ky va (k + 1) (upd ky' k (ky' (k + 1))) va2 := by
  obtain ⟨a1, a2, a3, a4, a5⟩ := h
  refine ⟨by omega, by omega, fun r hr => ⟨?_, fun i hi => ?_⟩, fun r h1 h2 => ⟨?_, fun i hi => ?_⟩, fun r h1 h2 => ⟨?_, fun i hi => ?_⟩⟩
  · rw [pk_un (by omega)]; exact (a3 r hr).1
  · rw [C.2 _ (by omega)]; exact (a3 r hr).2 i hi
  · by_cases e : r = k
    · rw [e, pk_us]; exact (a5 (k + 1) (by omega) (by omega)).1
    · rw [pk_un e]; exact (a4 r h1 (by omega)).1
  · by_cases e : r = k
    · rw [e]; exact (C.1 i hi).trans ((a5 (k + 1) (by omega) (by omega)).2 i hi)
    · rw [C.2 _ (by omega)]; exact (a4 r h1 (by omega)).2 i hi
  · rw [pk_un (by omega)]; exact (a5 r (by omega) h2).1
  · rw [C.2 _ (by omega)]; exact (a5 r (by omega) h2).2 i hi
/-! numbers and booleans as the walks have them -/
def tw_f (P : Nat → Nat) (w : Nat) : Int32 := nI (P w)
theorem tw_f_u (P : Nat → Nat) (k x : Nat) : upd (tw_f P) k (nI x) = tw_f (tw_un P k x) := tw_unI P k x
theorem tw_f_0 : tw_f (fun _ => 0) = fun _ => 0 := rfl
theorem tw_in {n N : Nat} (h : n < N) (hN : N < 2 ^ 31) : vp_in (nI n) N = True := eq_true (vp_in_nI h hN)
theorem tw_th_o {k x z c : Nat} (h1 : k ≠ 1) (h4 : k ≠ 4) : tw_th k x z c = c := by
  unfold tw_th; split
  · exact absurd rfl h1
  · exact absurd rfl h4
  · rfl
def tw_b (b : Bool) : Int32 := if b = true then 1 else 0
theorem tw_b0 : vp_nar .boolean 0 = 0 := by decide
theorem tw_b1 : vp_nar .boolean 1 = 1 := by decide
theorem tw_cb (r w : Nat) : nI r * 40 + nI w * 5 = nI (r * 40 + w * 5) := by
  show nI r * nI 40 + nI w * nI 5 = _
  rw [pk_mul, pk_mul, nI_add]
theorem tw_cr (r : Nat) : nI r * 40 = nI (r * 40) := pk_mul r 40
theorem tw_cY (r w : Nat) : 40 * nI r + 5 * nI w = nI (40 * r + 5 * w) := by
  show nI 40 * nI r + nI 5 * nI w = _
  rw [pk_mul, pk_mul, nI_add]
theorem tw_40 (r : Nat) : 40 * nI r = nI (40 * r) := pk_mul 40 r
theorem tw_5 (r : Nat) : 5 * nI r = nI (5 * r) := pk_mul 5 r
theorem tw_480 (r : Nat) : 480 + nI r = nI (480 + r) := nI_add 480 r
/-- an int is a number below n, or it is none -/
theorem tw_lt (x : Int32) {n : Nat} (hn : n < 2 ^ 31) : (∃ j : Nat, j < n ∧ x = nI j ∧ ¬ x < 0 ∧ 0 ≤ x ∧ x < nI n ∧ ¬ nI n ≤ x) ∨ (x < 0 ∧ ¬ 0 ≤ x) ∨ (¬ x < 0 ∧ 0 ≤ x ∧ nI n ≤ x ∧ ¬ x < nI n) := by
  rcases pk_ix x hn with h | h | ⟨j, h, e⟩
  · exact Or.inr (Or.inl ⟨h, Int32.not_le.mpr h⟩)
  · have z : (0 : Int32) ≤ x := Int32.le_trans (nI_pos' hn) h
    exact Or.inr (Or.inr ⟨Int32.not_lt.mpr z, z, h, Int32.not_lt.mpr h⟩)
  · have z : ¬ x < 0 := by rw [e]; exact nI_pos (by omega)
    have g : x < nI n := by rw [e]; exact nI_lt h hn
    exact Or.inl ⟨j, h, e, z, Int32.not_lt.mp z, g, Int32.not_le.mpr g⟩
theorem tw_c1 {A B : Prop} (b : B) : ((1 : Int32) = 0 → A) ∧ (¬ (1 : Int32) = 0 → B) := br_f tw_10 b
theorem tw_c0 {A B : Prop} (a : A) : ((0 : Int32) = 0 → A) ∧ (¬ (0 : Int32) = 0 → B) := br_t rfl a
theorem tw_w0 {m : Nat} (h : m ≤ 511) : nI m &&& 7 = nI (m % 8) := pk_andN (by omega) 3 (by decide)
theorem tw_w3 {m : Nat} (h : m ≤ 511) : (nI m >>> ((3 : Int32) &&& 31)) &&& 7 = nI (m / 8 % 8) := by
  have e := pk_shrN (n := m) (by omega) ((3 : Int32) &&& 31) 3 (by decide)
  rw [e]
  exact pk_andN (by omega) 3 (by decide)
theorem tw_w6 {m : Nat} (h : m ≤ 511) : nI m >>> ((6 : Int32) &&& 31) = nI (m / 64) := pk_shrN (by omega) _ 6 (by decide)
theorem tw_w7 {m : Nat} (h : m ≤ 511) : (nI m >>> ((6 : Int32) &&& 31)) &&& 7 = nI (m / 64) := by
  rw [tw_w6 h]
  have e : m / 64 % 8 = m / 64 := Nat.mod_eq_of_lt (by omega)
  have g : nI (m / 64) &&& 7 = nI (m / 64 % 8) := pk_andN (by omega) 3 (by decide)
  rw [g, e]
/-- the rounds of carry: some version below 8 - j is known -/
def tw_rd (vs j : Nat) (kn : Nat → Int32) : Prop := (∃ m, m < vs ∧ kn m = 1 ∧ (m = 0 ∨ m + j ≤ 7)) ∧ (j = 8 → ∀ u, u < vs → kn u = 1)
/-- inside a round, at version i -/
def tw_ri (vs : Nat) (P : Nat → Nat) (m i : Nat) (kn : Nat → Int32) : Prop := kn m = 1 ∧ (m = 0 ∨ i ≤ m ∨ kn (P m) = 1) ∧ (m = 0 → ∀ u, u < i → kn u = 1)
theorem tw_ri_0 {vs : Nat} {P : Nat → Nat} {m : Nat} {kn : Nat → Int32} (h : kn m = 1) : tw_ri vs P m 1 kn := by
  refine ⟨h, by omega, fun e u hu => ?_⟩
  have : u = m := by omega
  rw [this]; exact h
theorem tw_ri_e {vs j : Nat} {P : Nat → Nat} {m : Nat} {kn : Nat → Int32} (hP : ∀ w, 0 < w → w < vs → P w < w) (hm : m < vs) (hj : j < 8) (hmj : m = 0 ∨ m + j ≤ 7) (h : tw_ri vs P m vs kn) : tw_rd vs (j + 1) kn := by
  obtain ⟨h1, h2, h3⟩ := h
  by_cases e : m = 0
  · exact ⟨⟨m, hm, h1, Or.inl e⟩, fun _ => h3 e⟩
  · have p := hP m (by omega) hm
    refine ⟨⟨P m, by omega, ?_, Or.inr (by omega)⟩, fun q => absurd q (by omega)⟩
    rcases h2 with q | q | q
    · exact absurd q e
    · omega
    · exact q
/-- a round's step that writes nothing: parent and child alike -/
theorem tw_ri_k {vs : Nat} {P : Nat → Nat} {m i : Nat} {kn : Nat → Int32} (h : tw_ri vs P m i kn) (hi : kn i = 1 ↔ kn (P i) = 1) (hP : P i < i) : tw_ri vs P m (i + 1) kn := by
  obtain ⟨h1, h2, h3⟩ := h
  refine ⟨h1, ?_, fun e u hu => ?_⟩
  · by_cases e : i = m
    · right; right; rw [← e]; rw [← e] at h1; exact hi.mp h1
    · rcases h2 with z | z | z
      · exact Or.inl z
      · exact Or.inr (Or.inl (by omega))
      · exact Or.inr (Or.inr z)
  · by_cases z : u = i
    · rw [z]; exact hi.mpr (h3 e _ hP)
    · exact h3 e u (by omega)
/-- a round's step that makes q known, where behind it child and parent are known -/
theorem tw_ri_s {vs : Nat} {P : Nat → Nat} {m i q : Nat} {kn : Nat → Int32} (h : tw_ri vs P m i kn) (hi : upd kn q 1 i = 1) (hp : upd kn q 1 (P i) = 1) : tw_ri vs P m (i + 1) (upd kn q 1) := by
  have mono : ∀ u, kn u = 1 → upd kn q 1 u = 1 := by
    intro u hu
    by_cases e : u = q
    · rw [e]; exact pk_us
    · rw [pk_un e]; exact hu
  obtain ⟨h1, h2, h3⟩ := h
  refine ⟨mono m h1, ?_, fun e u hu => ?_⟩
  · by_cases e : i = m
    · right; right; rw [← e]; exact hp
    · rcases h2 with z | z | z
      · exact Or.inl z
      · exact Or.inr (Or.inl (by omega))
      · exact Or.inr (Or.inr (mono _ z))
  · by_cases z : u = i
    · rw [z]; exact hi
    · exact mono u (h3 e u (by omega))
