/-! SchemaTwins: the reference's rows move up at an insert, down at a delete -/
def tw_sh (n key : Nat) (KY : Nat → Nat) (ky va : Nat → Int32) (a : Nat) (ky' va' : Nat → Int32) : Prop :=
  a ≤ n ∧ (∀ r, a ≤ r → r < n → key < KY r) ∧ (∀ r, r < a → ky' r = ky r ∧ ∀ i, i < 40 → va' (40 * r + i) = va (40 * r + i)) ∧ (∀ r, a ≤ r → r < n → ky' (r + 1) = ky r ∧ ∀ i, i < 40 → va' (40 * (r + 1) + i) = va (40 * r + i)) ∧ (∀ i, i < 40 → va' (480 + i) = va (480 + i))
theorem tw_sh_0 {n key : Nat} {KY : Nat → Nat} {ky va : Nat → Int32} : tw_sh n key KY ky va n ky va :=
  ⟨Nat.le_refl _, fun r h1 h2 => absurd h2 (by omega), fun _ _ => ⟨rfl, fun _ _ => rfl⟩, fun r h1 h2 => absurd h2 (by omega), fun _ _ => rfl⟩
theorem tw_sh_s {n key a : Nat} {KY : Nat → Nat} {ky va ky' va' va2 : Nat → Int32} (h : tw_sh n key KY ky va (a + 1) ky' va') (hn : n < 12) (hk : key < KY a) (C : tw_I va' (40 * (a + 1)) (fun i => va' (40 * a + i)) 40 va2) : tw_sh n key KY ky va a (upd ky' (a + 1) (ky' a)) va2 := by
  obtain ⟨a1, a2, a3, a4, a5⟩ := h
  refine ⟨by omega, fun r h1 h2 => ?_, fun r hr => ⟨?_, fun i hi => ?_⟩, fun r h1 h2 => ⟨?_, fun i hi => ?_⟩, fun i hi => ?_⟩
  · by_cases e : r = a
    · rw [e]; exact hk
    · exact a2 r (by omega) h2
  · rw [pk_un (by omega)]; exact (a3 r (by omega)).1
  · rw [C.2 _ (by omega)]; exact (a3 r (by omega)).2 i hi
  · by_cases e : r = a
    · rw [e, pk_us]; exact (a3 a (by omega)).1
    · rw [pk_un (by omega)]; exact (a4 r (by omega) h2).1
  · by_cases e : r = a
    · rw [e]; exact (C.1 i hi).trans ((a3 a (by omega)).2 i hi)
    · rw [C.2 _ (by omega)]; exact (a4 r (by omega) h2).2 i hi
  · rw [C.2 _ (by omega)]; exact a5 i hi
def tw_sd (n a : Nat) (ky va : Nat → Int32) (k : Nat) (ky' va' : Nat → Int32) : Prop :=
  a ≤ k ∧ k ≤ n ∧ (∀ r, r < a → ky' r = ky r ∧ ∀ i, i < 40 → va' (40 * r + i) = va (40 * r + i)) ∧ (∀ r, a ≤ r → r < k → ky' r = ky (r + 1) ∧ ∀ i, i < 40 → va' (40 * r + i) = va (40 * (r + 1) + i)) ∧ (∀ r, k ≤ r → r < 12 → ky' r = ky r ∧ ∀ i, i < 40 → va' (40 * r + i) = va (40 * r + i))
theorem tw_sd_0 {n a : Nat} {ky va : Nat → Int32} (h : a ≤ n) : tw_sd n a ky va a ky va :=
  ⟨Nat.le_refl _, h, fun _ _ => ⟨rfl, fun _ _ => rfl⟩, fun r h1 h2 => absurd h2 (by omega), fun _ _ _ => ⟨rfl, fun _ _ => rfl⟩⟩
theorem tw_sd_s {n a k : Nat} {ky va ky' va' va2 : Nat → Int32} (h : tw_sd n a ky va k ky' va') (hn : n < 12) (hk : k < n) (C : tw_I va' (40 * k) (fun i => va' (40 * (k + 1) + i)) 40 va2) : tw_sd n a ky va (k + 1) (upd ky' k (ky' (k + 1))) va2 := by
  obtain ⟨a1, a2, a3, a4, a5⟩ := h
  refine ⟨by omega, by omega, fun r hr => ⟨?_, fun i hi => ?_⟩, fun r h1 h2 => ⟨?_, fun i hi => ?_⟩, fun r h1 h2 => ⟨?_, fun i hi => ?_⟩⟩
  · rw [pk_un (by omega)]; exact (a3 r hr).1
  · rw [C.2 _ (by omega)]; exact (a3 r hr).2 i hi
  · by_cases e : r = k
    · rw [e, pk_us]; exact (a5 (k + 1) (by omega) (by omega)).1
    · rw [pk_un e]; exact (a4 r h1 (by omega)).1
  · by_cases e : r = k
    · rw [e]; exact (C.1 i hi).trans ((a5 (k + 1) (by omega) (by omega)).2 i hi)
    · rw [C.2 _ (by omega)]; exact (a4 r h1 (by omega)).2 i hi
  · rw [pk_un (by omega)]; exact (a5 r (by omega) h2).1
  · rw [C.2 _ (by omega)]; exact (a5 r (by omega) h2).2 i hi
/-! numbers and booleans as the walks have them -/
def tw_f (P : Nat → Nat) : Nat → Int32 := fun w => nI (P w)
theorem tw_f_u (P : Nat → Nat) (k x : Nat) : upd (tw_f P) k (nI x) = tw_f (tw_un P k x) := tw_unI P k x
theorem tw_f_0 : tw_f (fun _ => 0) = fun _ => 0 := rfl
def tw_b (b : Bool) : Int32 := if b = true then 1 else 0
theorem tw_b0 : vp_nar .boolean 0 = 0 := by decide
theorem tw_b1 : vp_nar .boolean 1 = 1 := by decide
theorem tw_cb (r w : Nat) : nI r * 40 + nI w * 5 = nI (r * 40 + w * 5) := by
  show nI r * nI 40 + nI w * nI 5 = _
  rw [pk_mul, pk_mul, nI_add]
theorem tw_cr (r : Nat) : nI r * 40 = nI (r * 40) := pk_mul r 40
theorem tw_cY (r w : Nat) : 40 * nI r + 5 * nI w = nI (40 * r + 5 * w) := by
  show nI 40 * nI r + nI 5 * nI w = _
  rw [pk_mul, pk_mul, nI_add]
theorem tw_40 (r : Nat) : 40 * nI r = nI (40 * r) := pk_mul 40 r
theorem tw_5 (r : Nat) : 5 * nI r = nI (5 * r) := pk_mul 5 r
theorem tw_480 (r : Nat) : 480 + nI r = nI (480 + r) := nI_add 480 r
/-- an int is a number below n, or it is none -/
theorem tw_lt (x : Int32) {n : Nat} (hn : n < 2 ^ 31) : (∃ j : Nat, j < n ∧ x = nI j ∧ ¬ x < 0 ∧ 0 ≤ x ∧ x < nI n ∧ ¬ nI n ≤ x) ∨ (x < 0 ∧ ¬ 0 ≤ x) ∨ (¬ x < 0 ∧ 0 ≤ x ∧ nI n ≤ x ∧ ¬ x < nI n) := by
  rcases pk_ix x hn with h | h | ⟨j, h, e⟩
  · exact Or.inr (Or.inl ⟨h, Int32.not_le.mpr h⟩)
  · have z : (0 : Int32) ≤ x := Int32.le_trans (nI_pos' hn) h
    exact Or.inr (Or.inr ⟨Int32.not_lt.mpr z, z, h, Int32.not_lt.mpr h⟩)
  · have z : ¬ x < 0 := by rw [e]; exact nI_pos (by omega)
    have g : x < nI n := by rw [e]; exact nI_lt h hn
    exact Or.inl ⟨j, h, e, z, Int32.not_lt.mp z, g, Int32.not_le.mpr g⟩
