/-! SchemaTwins: loops that write a stretch of an array, and what a move between a version and its parent leaves -/
/-- the first i cells from lo hold g, all others are as they were -/
def tw_I (ce : Nat → Int32) (lo : Nat) (g : Nat → Int32) (i : Nat) (f : Nat → Int32) : Prop :=
  (∀ c, c < i → f (lo + c) = g c) ∧ ∀ j, j < lo ∨ lo + i ≤ j → f j = ce j
theorem tw_I_0 {ce : Nat → Int32} {lo : Nat} {g : Nat → Int32} : tw_I ce lo g 0 ce := ⟨fun c hc => absurd hc (Nat.not_lt_zero _), fun _ _ => rfl⟩
theorem tw_I_s {ce g f : Nat → Int32} {lo i : Nat} {x : Int32} (h : tw_I ce lo g i f) (e : x = g i) : tw_I ce lo g (i + 1) (upd f (lo + i) x) := by
  refine ⟨fun c hc => ?_, fun j hj => ?_⟩
  · by_cases z : c = i
    · subst z; rw [pk_us]; exact e
    · rw [pk_un (by omega)]; exact h.1 c (by omega)
  · rw [pk_un (by omega)]; exact h.2 j (by omega)
theorem tw_I_k {ce g f : Nat → Int32} {lo i : Nat} (h : tw_I ce lo g i f) (e : ce (lo + i) = g i) : tw_I ce lo g (i + 1) f := by
  refine ⟨fun c hc => ?_, fun j hj => h.2 j (by omega)⟩
  by_cases z : c = i
  · subst z; rw [h.2 _ (by omega)]; exact e
  · exact h.1 c (by omega)
/-- the n cells from lo hold g, and nothing outside lo .. lo + 4 has changed -/
def tw_G (ce f : Nat → Int32) (lo n : Nat) (g : Nat → Int32) : Prop :=
  (∀ c, c < n → f (lo + c) = g c) ∧ ∀ j, j < lo ∨ lo + 5 ≤ j → f j = ce j
theorem tw_I_G {ce g g' f : Nat → Int32} {lo n : Nat} (h : tw_I ce lo g n f) (hn : n ≤ 5) (e : ∀ c, c < n → g c = g' c) : tw_G ce f lo n g' :=
  ⟨fun c hc => (h.1 c hc).trans (e c hc), fun j hj => h.2 j (by omega)⟩
theorem tw_G_u {ce g g' f : Nat → Int32} {lo n x : Nat} {y : Int32} (h : tw_G ce f lo n g) (hx : x < 5) (e1 : x < n → y = g' x) (e2 : ∀ c, c < n → c ≠ x → g c = g' c) : tw_G ce (upd f (lo + x) y) lo n g' := by
  refine ⟨fun c hc => ?_, fun j hj => ?_⟩
  · by_cases z : c = x
    · subst z; rw [pk_us]; exact e1 hc
    · rw [pk_un (by omega)]; exact (h.1 c hc).trans (e2 c hc z)
  · rw [pk_un (by omega)]; exact h.2 j hj
/-- where the parent has the child's column c -/
def tw_th (k x z c : Nat) : Nat :=
  match k with
  | 1 => if c < x then c else c + 1
  | 4 => if c = x then z else if c = z then x else c
  | _ => c
def tw_cm (k wc : Nat) : Nat := if k = 0 then wc - 1 else wc
theorem tw_th_lt {k x z wp wc c : Nat} (h : tw_ok k x z wp wc) (hc : c < tw_cm k wc) : tw_th k x z c < wp := by
  obtain ⟨h1, h2, h3, h4, h5, h6, h7, h8, h9, _⟩ := h
  rcases (by omega : k = 0 ∨ k = 1 ∨ k = 2 ∨ k = 3 ∨ k = 4 ∨ k = 5) with e | e | e | e | e | e <;> subst e
  · have : c < wc - 1 := hc
    show c < wp; omega
  · have : c < wc := hc
    show (if c < x then c else c + 1) < wp
    split <;> omega
  · have : c < wc := hc
    show c < wp; omega
  · have : c < wc := hc
    show c < wp; omega
  · have : c < wc := hc
    show (if c = x then z else if c = z then x else c) < wp
    split
    · omega
    · split <;> omega
  · have : c < wc := hc
    show c < wp; omega
theorem tw_th_inj {k x z c d : Nat} (h : tw_th k x z c = tw_th k x z d) : c = d := by
  by_cases k1 : k = 1
  · subst k1
    have h' : (if c < x then c else c + 1) = (if d < x then d else d + 1) := h
    split at h' <;> split at h' <;> omega
  · by_cases k4 : k = 4
    · subst k4
      have h' : (if c = x then z else if c = z then x else c) = (if d = x then z else if d = z then x else d) := h
      repeat' split at h'
      all_goals omega
    · have e : ∀ q, tw_th k x z q = q := by
        intro q; unfold tw_th; split
        · exact absurd rfl k1
        · exact absurd rfl k4
        · rfl
      rw [e, e] at h; exact h
/-! the child of its parent, component -/
section
variable {k x z wp wc lo hi : Nat} {y : Int32} {b : Bool} {ce f : Nat → Int32}
theorem tw_fp_n (ho : tw_ok k x z wp wc) (h : tw_I ce lo (fun c => ce (hi + tw_th k x z c)) (tw_cm k wc) f) (k2 : k ≠ 2) (k5 : k ≠ 5) (k0 : k = 0 → b = false) : tw_G ce f lo wc (tw_td k x z y wc b (fun c => ce (hi + c)) (fun c => ce (lo + c))) := by
  obtain ⟨h1, h2, h3, h4, h5, h6, h7, h8, h9, _⟩ := ho
  rcases (by omega : k = 0 ∨ k = 1 ∨ k = 3 ∨ k = 4) with e | e | e | e <;> subst e
  · have h' : tw_I ce lo (fun c => ce (hi + c)) (wc - 1) f := h
    refine ⟨fun c hc => ?_, fun j hj => h'.2 j (by omega)⟩
    show f (lo + c) = if c + 1 = wc then (if b = true then y else ce (lo + c)) else ce (hi + c)
    by_cases e : c + 1 = wc
    · rw [if_pos e, k0 rfl, if_neg (by decide)]; exact h'.2 _ (by omega)
    · rw [if_neg e]; exact h'.1 c (by omega)
  · have h' : tw_I ce lo (fun c => ce (hi + if c < x then c else c + 1)) wc f := h
    refine tw_I_G h' (by omega) fun c hc => ?_
    show ce (hi + if c < x then c else c + 1) = if c < x then ce (hi + c) else ce (hi + (c + 1))
    split <;> rfl
  · exact tw_I_G h (by omega) fun c hc => rfl
  · have h' : tw_I ce lo (fun c => ce (hi + if c = x then z else if c = z then x else c)) wc f := h
    refine tw_I_G h' (by omega) fun c hc => ?_
    show ce (hi + if c = x then z else if c = z then x else c) = if c = x then ce (hi + z) else if c = z then ce (hi + x) else ce (hi + c)
    split
    · rfl
    · split <;> rfl
theorem tw_fp_2 (ho : tw_ok 2 x z wp wc) (h : tw_I ce lo (fun c => ce (hi + tw_th 2 x z c)) (tw_cm 2 wc) f) : tw_G ce (upd f (lo + x) (f (lo + x) + y)) lo wc (tw_td 2 x z y wc b (fun c => ce (hi + c)) (fun c => ce (lo + c))) := by
  obtain ⟨h1, h2, h3, h4, h5, h6, h7, h8, h9, _⟩ := ho
  have a := h4 (by omega)
  have w := h9 (by omega)
  have h' : tw_I ce lo (fun c => ce (hi + c)) wc f := h
  refine tw_G_u (tw_I_G h' (by omega) fun c hc => rfl) (by omega) (fun hx => ?_) (fun c hc hne => ?_)
  · show f (lo + x) + y = if x = x then ce (hi + x) + y else ce (hi + x)
    rw [if_pos rfl, h'.1 x hx]
  · show ce (hi + c) = if c = x then ce (hi + x) + y else ce (hi + c)
    rw [if_neg hne]
theorem tw_fp_5 (ho : tw_ok 5 x z wp wc) (h : tw_I ce lo (fun c => ce (hi + tw_th 5 x z c)) (tw_cm 5 wc) f) : tw_G ce (upd f (lo + x) (f (lo + x) + f (lo + z))) lo wc (tw_td 5 x z y wc b (fun c => ce (hi + c)) (fun c => ce (lo + c))) := by
  obtain ⟨h1, h2, h3, h4, h5, h6, h7, h8, h9, _⟩ := ho
  have a := h4 (by omega)
  have a' := h5 (by omega)
  have w := h9 (by omega)
  have h' : tw_I ce lo (fun c => ce (hi + c)) wc f := h
  refine tw_G_u (tw_I_G h' (by omega) fun c hc => rfl) (by omega) (fun hx => ?_) (fun c hc hne => ?_)
  · show f (lo + x) + f (lo + z) = if x = x then ce (hi + x) + ce (hi + z) else ce (hi + x)
    rw [if_pos rfl, h'.1 x hx, h'.1 z (by omega)]
  · show ce (hi + c) = if c = x then ce (hi + x) + ce (hi + z) else ce (hi + c)
    rw [if_neg hne]
theorem tw_fp_0 (ho : tw_ok 0 x z wp wc) (h : tw_I ce lo (fun c => ce (hi + tw_th 0 x z c)) (tw_cm 0 wc) f) : tw_G ce (upd f (lo + tw_cm 0 wc) y) lo wc (tw_td 0 x z y wc true (fun c => ce (hi + c)) (fun c => ce (lo + c))) := by
  obtain ⟨h1, h2, h3, h4, h5, h6, h7, h8, h9, _⟩ := ho
  have h' : tw_I ce lo (fun c => ce (hi + c)) (wc - 1) f := h
  show tw_G ce (upd f (lo + (wc - 1)) y) lo wc _
  refine ⟨fun c hc => ?_, fun j hj => ?_⟩
  · show upd f (lo + (wc - 1)) y (lo + c) = if c + 1 = wc then (if true = true then y else ce (lo + c)) else ce (hi + c)
    by_cases e : c + 1 = wc
    · rw [if_pos e, if_pos rfl, show wc - 1 = c from by omega, pk_us]
    · rw [if_neg e, pk_un (by omega)]; exact h'.1 c (by omega)
  · rw [pk_un (by omega)]; exact h'.2 j (by omega)
/-! the parent of its child, component -/
def tw_J (ce : Nat → Int32) (lo hi k x z i : Nat) (f : Nat → Int32) : Prop :=
  (∀ c, c < i → f (hi + tw_th k x z c) = ce (lo + c)) ∧ ∀ j, (∀ c, c < i → j ≠ hi + tw_th k x z c) → f j = ce j
theorem tw_J_0 : tw_J ce lo hi k x z 0 ce := ⟨fun c hc => absurd hc (Nat.not_lt_zero _), fun _ _ => rfl⟩
theorem tw_J_s {i : Nat} {q : Int32} (h : tw_J ce lo hi k x z i f) (e : q = ce (lo + i)) : tw_J ce lo hi k x z (i + 1) (upd f (hi + tw_th k x z i) q) := by
  refine ⟨fun c hc => ?_, fun j hj => ?_⟩
  · by_cases d : c = i
    · subst d; rw [pk_us]; exact e
    · have : tw_th k x z c ≠ tw_th k x z i := fun q => d (tw_th_inj q)
      rw [pk_un (by omega)]; exact h.1 c (by omega)
  · rw [pk_un (hj i (by omega))]; exact h.2 j fun c hc => hj c (by omega)
theorem tw_J_f (ho : tw_ok k x z wp wc) {i : Nat} (hi' : i ≤ tw_cm k wc) (h : tw_J ce lo hi k x z i f) (j : Nat) (hj : j < hi ∨ hi + 5 ≤ j) : f j = ce j := by
  refine h.2 j fun c hc => ?_
  have a := tw_th_lt ho (c := c) (by omega)
  have w := ho.2.1
  omega
theorem tw_fc_n (ho : tw_ok k x z wp wc) (h : tw_J ce lo hi k x z (tw_cm k wc) f) (k2 : k ≠ 2) (k5 : k ≠ 5) (k1 : k = 1 → b = false) : tw_G ce f hi wp (tw_tp k x z y b (fun c => ce (lo + c)) (fun c => ce (hi + c))) := by
  have fr := tw_J_f ho (Nat.le_refl _) h
  obtain ⟨h1, h2, h3, h4, h5, h6, h7, h8, h9, _⟩ := ho
  refine ⟨fun c hc => ?_, fr⟩
  rcases (by omega : k = 0 ∨ k = 1 ∨ k = 3 ∨ k = 4) with e | e | e | e <;> subst e
  · exact h.1 c (show c < wc - 1 by omega)
  · show f (hi + c) = if c = x then (if b = true then y else ce (hi + c)) else if c < x then ce (lo + c) else ce (lo + (c - 1))
    by_cases e : c = x
    · rw [if_pos e, k1 rfl, if_neg (by decide)]
      refine h.2 _ fun d hd q => ?_
      have q' : hi + c = hi + if d < x then d else d + 1 := q
      split at q' <;> omega
    · rw [if_neg e]
      by_cases g : c < x
      · have := h.1 c (show c < wc by omega)
        have t : tw_th 1 x z c = c := if_pos g
        rw [t] at this; rw [if_pos g]; exact this
      · have := h.1 (c - 1) (show c - 1 < wc by omega)
        have t : tw_th 1 x z (c - 1) = c := by
          show (if c - 1 < x then c - 1 else c - 1 + 1) = c
          rw [if_neg (by omega)]; omega
        rw [t] at this; rw [if_neg g]; exact this
  · exact h.1 c (show c < wc by omega)
  · show f (hi + c) = if c = x then ce (lo + z) else if c = z then ce (lo + x) else ce (lo + c)
    have a := h4 (by omega)
    have a' := h5 (by omega)
    have w := h9 (by omega)
    by_cases e : c = x
    · rw [if_pos e]
      have := h.1 z (show z < wc by omega)
      have t : tw_th 4 x z z = c := by
        show (if z = x then z else if z = z then x else z) = c
        split
        · omega
        · rw [if_pos rfl]; omega
      rw [t] at this; exact this
    · rw [if_neg e]
      by_cases g : c = z
      · rw [if_pos g]
        have := h.1 x (show x < wc by omega)
        have t : tw_th 4 x z x = c := by
          show (if x = x then z else if x = z then x else x) = c
          rw [if_pos rfl]; omega
        rw [t] at this; exact this
      · rw [if_neg g]
        have := h.1 c (show c < wc by omega)
        have t : tw_th 4 x z c = c := by
          show (if c = x then z else if c = z then x else c) = c
          rw [if_neg e, if_neg g]
        rw [t] at this; exact this
theorem tw_fc_2 (ho : tw_ok 2 x z wp wc) (h : tw_J ce lo hi 2 x z (tw_cm 2 wc) f) : tw_G ce (upd f (hi + x) (f (hi + x) - y)) hi wp (tw_tp 2 x z y b (fun c => ce (lo + c)) (fun c => ce (hi + c))) := by
  have fr := tw_J_f ho (Nat.le_refl _) h
  obtain ⟨h1, h2, h3, h4, h5, h6, h7, h8, h9, _⟩ := ho
  have a := h4 (by omega)
  have w := h9 (by omega)
  have v : ∀ c, c < wp → f (hi + c) = ce (lo + c) := fun c hc => h.1 c (show c < wc by omega)
  refine tw_G_u (g := fun c => ce (lo + c)) ⟨v, fr⟩ (by omega) (fun hx => ?_) (fun c hc hne => ?_)
  · show f (hi + x) - y = if x = x then ce (lo + x) - y else ce (lo + x)
    rw [if_pos rfl, v x hx]
  · show ce (lo + c) = if c = x then ce (lo + x) - y else ce (lo + c)
    rw [if_neg hne]
theorem tw_fc_5 (ho : tw_ok 5 x z wp wc) (h : tw_J ce lo hi 5 x z (tw_cm 5 wc) f) : tw_G ce (upd f (hi + x) (f (hi + x) - f (hi + z))) hi wp (tw_tp 5 x z y b (fun c => ce (lo + c)) (fun c => ce (hi + c))) := by
  have fr := tw_J_f ho (Nat.le_refl _) h
  obtain ⟨h1, h2, h3, h4, h5, h6, h7, h8, h9, _⟩ := ho
  have a := h4 (by omega)
  have a' := h5 (by omega)
  have w := h9 (by omega)
  have v : ∀ c, c < wp → f (hi + c) = ce (lo + c) := fun c hc => h.1 c (show c < wc by omega)
  refine tw_G_u (g := fun c => ce (lo + c)) ⟨v, fr⟩ (by omega) (fun hx => ?_) (fun c hc hne => ?_)
  · show f (hi + x) - f (hi + z) = if x = x then ce (lo + x) - ce (lo + z) else ce (lo + x)
    rw [if_pos rfl, v x hx, v z (by omega)]
  · show ce (lo + c) = if c = x then ce (lo + x) - ce (lo + z) else ce (lo + c)
    rw [if_neg hne]
theorem tw_fc_1 (ho : tw_ok 1 x z wp wc) (h : tw_J ce lo hi 1 x z (tw_cm 1 wc) f) : tw_G ce (upd f (hi + x) y) hi wp (tw_tp 1 x z y true (fun c => ce (lo + c)) (fun c => ce (hi + c))) := by
  have g := tw_fc_n (b := false) (y := y) ho h (by decide) (by decide) (fun _ => rfl)
  obtain ⟨h1, h2, h3, h4, h5, h6, h7, h8, h9, _⟩ := ho
  have a := h4 (by omega)
  refine tw_G_u g (by omega) (fun hx => ?_) (fun c hc hne => ?_)
  · show y = if x = x then (if true = true then y else ce (hi + x)) else if x < x then ce (lo + x) else ce (lo + (x - 1))
    rw [if_pos rfl, if_pos rfl]
  · show (if c = x then (if false = true then y else ce (hi + c)) else if c < x then ce (lo + c) else ce (lo + (c - 1))) = if c = x then (if true = true then y else ce (hi + c)) else if c < x then ce (lo + c) else ce (lo + (c - 1))
    rw [if_neg hne, if_neg hne]
theorem tw_fp_2k (e : k = 2) (ho : tw_ok k x z wp wc) (h : tw_I ce lo (fun c => ce (hi + tw_th k x z c)) (tw_cm k wc) f) : tw_G ce (upd f (lo + x) (f (lo + x) + y)) lo wc (tw_td k x z y wc b (fun c => ce (hi + c)) (fun c => ce (lo + c))) := by
  subst e; exact tw_fp_2 ho h
theorem tw_fp_5k (e : k = 5) (ho : tw_ok k x z wp wc) (h : tw_I ce lo (fun c => ce (hi + tw_th k x z c)) (tw_cm k wc) f) : tw_G ce (upd f (lo + x) (f (lo + x) + f (lo + z))) lo wc (tw_td k x z y wc b (fun c => ce (hi + c)) (fun c => ce (lo + c))) := by
  subst e; exact tw_fp_5 ho h
theorem tw_fp_0k (e : k = 0) (ho : tw_ok k x z wp wc) (h : tw_I ce lo (fun c => ce (hi + tw_th k x z c)) (tw_cm k wc) f) : tw_G ce (upd f (lo + tw_cm k wc) y) lo wc (tw_td k x z y wc true (fun c => ce (hi + c)) (fun c => ce (lo + c))) := by
  subst e; exact tw_fp_0 ho h
theorem tw_fc_2k (e : k = 2) (ho : tw_ok k x z wp wc) (h : tw_J ce lo hi k x z (tw_cm k wc) f) : tw_G ce (upd f (hi + x) (f (hi + x) - y)) hi wp (tw_tp k x z y b (fun c => ce (lo + c)) (fun c => ce (hi + c))) := by
  subst e; exact tw_fc_2 ho h
theorem tw_fc_5k (e : k = 5) (ho : tw_ok k x z wp wc) (h : tw_J ce lo hi k x z (tw_cm k wc) f) : tw_G ce (upd f (hi + x) (f (hi + x) - f (hi + z))) hi wp (tw_tp k x z y b (fun c => ce (lo + c)) (fun c => ce (hi + c))) := by
  subst e; exact tw_fc_5 ho h
theorem tw_fc_1k (e : k = 1) (ho : tw_ok k x z wp wc) (h : tw_J ce lo hi k x z (tw_cm k wc) f) : tw_G ce (upd f (hi + x) y) hi wp (tw_tp k x z y true (fun c => ce (lo + c)) (fun c => ce (hi + c))) := by
  subst e; exact tw_fc_1 ho h
end
