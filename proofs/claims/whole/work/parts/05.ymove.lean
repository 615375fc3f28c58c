/-! SchemaTwins: the reference's two moves: t the target's first cell, s the source's -/
def tw_yd (k x wc : Nat) (y : Int32) (b : Bool) (ce : Nat → Int32) (t s c : Nat) : Int32 :=
  if k = 0 ∧ c + 1 = wc then (if b = true then y else ce (t + c)) else ce (s + if k = 1 ∧ x ≤ c then c + 1 else c)
def tw_yu (k x : Nat) (y : Int32) (b : Bool) (ce : Nat → Int32) (t s c : Nat) : Int32 :=
  if k = 1 ∧ c = x then (if b = true then y else ce (t + c)) else ce (s + if k = 1 ∧ x < c then c - 1 else c)
section
variable {k x z wp wc t s : Nat} {y : Int32} {b : Bool} {ce f : Nat → Int32}
theorem tw_yd_2 (h : tw_I ce t (tw_yd k x wc y b ce t s) wc f) (hw : wc ≤ 5) (k2 : 2 ≤ k) : tw_G ce f t wc (fun c => ce (s + c)) := by
  refine tw_I_G h hw fun c hc => ?_
  unfold tw_yd
  rw [if_neg (by omega), if_neg (by omega)]
theorem tw_yu_2 (h : tw_I ce t (tw_yu k x y b ce t s) wp f) (hw : wp ≤ 5) (k2 : k ≠ 1) : tw_G ce f t wp (fun c => ce (s + c)) := by
  refine tw_I_G h hw fun c hc => ?_
  unfold tw_yu
  rw [if_neg (by omega), if_neg (by omega)]
theorem tw_yd_n (ho : tw_ok k x z wp wc) (h : tw_I ce t (tw_yd k x wc y b ce t s) wc f) (k2 : k ≠ 2) (k4 : k ≠ 4) (k5 : k ≠ 5) : tw_G ce f t wc (tw_td k x z y wc b (fun c => ce (s + c)) (fun c => ce (t + c))) := by
  obtain ⟨h1, h2, h3, h4, h5, h6, h7, h8, h9, _⟩ := ho
  refine tw_I_G h (by omega) fun c hc => ?_
  rcases (by omega : k = 0 ∨ k = 1 ∨ k = 3) with e | e | e <;> subst e
  · show tw_yd 0 x wc y b ce t s c = if c + 1 = wc then (if b = true then y else ce (t + c)) else ce (s + c)
    unfold tw_yd
    by_cases e : c + 1 = wc
    · rw [if_pos ⟨rfl, e⟩, if_pos e]
    · rw [if_neg (by omega), if_neg e, if_neg (by omega)]
  · show tw_yd 1 x wc y b ce t s c = if c < x then ce (s + c) else ce (s + (c + 1))
    unfold tw_yd
    rw [if_neg (by omega)]
    by_cases e : c < x
    · rw [if_neg (by omega), if_pos e]
    · rw [if_pos (by omega), if_neg e]
  · show tw_yd 3 x wc y b ce t s c = ce (s + c)
    unfold tw_yd
    rw [if_neg (by omega), if_neg (by omega)]
theorem tw_yd_s (ho : tw_ok 2 x z wp wc) (hd : s + 5 ≤ t ∨ t + 5 ≤ s) (h : tw_I ce t (tw_yd 2 x wc y b ce t s) wc f) : tw_G ce (upd f (t + x) (f (s + x) + y)) t wc (tw_td 2 x z y wc b (fun c => ce (s + c)) (fun c => ce (t + c))) := by
  obtain ⟨h1, h2, h3, h4, h5, h6, h7, h8, h9, _⟩ := ho
  have a := h4 (by omega)
  have g := tw_yd_2 h (by omega) (by omega)
  refine tw_G_u g (by omega) (fun hx => ?_) (fun c hc hne => ?_)
  · show f (s + x) + y = if x = x then ce (s + x) + y else ce (s + x)
    rw [if_pos rfl, g.2 _ (by omega)]
  · show ce (s + c) = if c = x then ce (s + x) + y else ce (s + c)
    rw [if_neg hne]
theorem tw_yd_5 (ho : tw_ok 5 x z wp wc) (hd : s + 5 ≤ t ∨ t + 5 ≤ s) (h : tw_I ce t (tw_yd 5 x wc y b ce t s) wc f) : tw_G ce (upd f (t + x) (f (s + x) + f (s + z))) t wc (tw_td 5 x z y wc b (fun c => ce (s + c)) (fun c => ce (t + c))) := by
  obtain ⟨h1, h2, h3, h4, h5, h6, h7, h8, h9, _⟩ := ho
  have a := h4 (by omega)
  have a' := h5 (by omega)
  have g := tw_yd_2 h (by omega) (by omega)
  refine tw_G_u g (by omega) (fun hx => ?_) (fun c hc hne => ?_)
  · show f (s + x) + f (s + z) = if x = x then ce (s + x) + ce (s + z) else ce (s + x)
    rw [if_pos rfl, g.2 _ (by omega), g.2 _ (by omega)]
  · show ce (s + c) = if c = x then ce (s + x) + ce (s + z) else ce (s + c)
    rw [if_neg hne]
theorem tw_sw (hx : x < 5) (hz : z < 5) (hd : s + 5 ≤ t ∨ t + 5 ≤ s) {n : Nat} (g : tw_G ce f t n (fun c => ce (s + c))) : tw_G ce (upd (upd f (t + x) (f (s + z))) (t + z) (upd f (t + x) (f (s + z)) (s + x))) t n (fun c => if c = x then ce (s + z) else if c = z then ce (s + x) else ce (s + c)) := by
  rw [pk_un (show s + x ≠ t + x by omega), g.2 (s + z) (by omega), g.2 (s + x) (by omega)]
  have g1 : tw_G ce (upd f (t + x) (ce (s + z))) t n (fun c => if c = x then ce (s + z) else ce (s + c)) := by
    refine tw_G_u g hx (fun _ => (if_pos rfl).symm) (fun c hc hne => (if_neg hne).symm)
  refine tw_G_u g1 hz (fun _ => ?_) (fun c hc hne => ?_)
  · by_cases e : z = x
    · rw [if_pos e, e]
    · rw [if_neg e, if_pos rfl]
  · rw [if_neg hne]
theorem tw_yd_4 (ho : tw_ok 4 x z wp wc) (hd : s + 5 ≤ t ∨ t + 5 ≤ s) (h : tw_I ce t (tw_yd 4 x wc y b ce t s) wc f) : tw_G ce (upd (upd f (t + x) (f (s + z))) (t + z) (upd f (t + x) (f (s + z)) (s + x))) t wc (tw_td 4 x z y wc b (fun c => ce (s + c)) (fun c => ce (t + c))) := by
  obtain ⟨h1, h2, h3, h4, h5, h6, h7, h8, h9, _⟩ := ho
  have a := h4 (by omega)
  have a' := h5 (by omega)
  exact tw_sw (by omega) (by omega) hd (tw_yd_2 h (by omega) (by omega))
theorem tw_yu_n (ho : tw_ok k x z wp wc) (h : tw_I ce t (tw_yu k x y b ce t s) wp f) (k2 : k ≠ 2) (k4 : k ≠ 4) (k5 : k ≠ 5) : tw_G ce f t wp (tw_tp k x z y b (fun c => ce (s + c)) (fun c => ce (t + c))) := by
  obtain ⟨h1, h2, h3, h4, h5, h6, h7, h8, h9, _⟩ := ho
  refine tw_I_G h (by omega) fun c hc => ?_
  rcases (by omega : k = 0 ∨ k = 1 ∨ k = 3) with e | e | e <;> subst e
  · show tw_yu 0 x y b ce t s c = ce (s + c)
    unfold tw_yu
    rw [if_neg (by omega), if_neg (by omega)]
  · show tw_yu 1 x y b ce t s c = if c = x then (if b = true then y else ce (t + c)) else if c < x then ce (s + c) else ce (s + (c - 1))
    unfold tw_yu
    by_cases e : c = x
    · rw [if_pos ⟨rfl, e⟩, if_pos e]
    · rw [if_neg (by omega), if_neg e]
      by_cases g : c < x
      · rw [if_neg (by omega), if_pos g]
      · rw [if_pos (by omega), if_neg g]
  · show tw_yu 3 x y b ce t s c = ce (s + c)
    unfold tw_yu
    rw [if_neg (by omega), if_neg (by omega)]
theorem tw_yu_s (ho : tw_ok 2 x z wp wc) (hd : s + 5 ≤ t ∨ t + 5 ≤ s) (h : tw_I ce t (tw_yu 2 x y b ce t s) wp f) : tw_G ce (upd f (t + x) (f (s + x) - y)) t wp (tw_tp 2 x z y b (fun c => ce (s + c)) (fun c => ce (t + c))) := by
  obtain ⟨h1, h2, h3, h4, h5, h6, h7, h8, h9, _⟩ := ho
  have a := h4 (by omega)
  have g := tw_yu_2 h (by omega) (by omega)
  refine tw_G_u g (by omega) (fun hx => ?_) (fun c hc hne => ?_)
  · show f (s + x) - y = if x = x then ce (s + x) - y else ce (s + x)
    rw [if_pos rfl, g.2 _ (by omega)]
  · show ce (s + c) = if c = x then ce (s + x) - y else ce (s + c)
    rw [if_neg hne]
theorem tw_yu_5 (ho : tw_ok 5 x z wp wc) (hd : s + 5 ≤ t ∨ t + 5 ≤ s) (h : tw_I ce t (tw_yu 5 x y b ce t s) wp f) : tw_G ce (upd f (t + x) (f (s + x) - f (s + z))) t wp (tw_tp 5 x z y b (fun c => ce (s + c)) (fun c => ce (t + c))) := by
  obtain ⟨h1, h2, h3, h4, h5, h6, h7, h8, h9, _⟩ := ho
  have a := h4 (by omega)
  have a' := h5 (by omega)
  have g := tw_yu_2 h (by omega) (by omega)
  refine tw_G_u g (by omega) (fun hx => ?_) (fun c hc hne => ?_)
  · show f (s + x) - f (s + z) = if x = x then ce (s + x) - ce (s + z) else ce (s + x)
    rw [if_pos rfl, g.2 _ (by omega), g.2 _ (by omega)]
  · show ce (s + c) = if c = x then ce (s + x) - ce (s + z) else ce (s + c)
    rw [if_neg hne]
theorem tw_yu_4 (ho : tw_ok 4 x z wp wc) (hd : s + 5 ≤ t ∨ t + 5 ≤ s) (h : tw_I ce t (tw_yu 4 x y b ce t s) wp f) : tw_G ce (upd (upd f (t + x) (f (s + z))) (t + z) (upd f (t + x) (f (s + z)) (s + x))) t wp (tw_tp 4 x z y b (fun c => ce (s + c)) (fun c => ce (t + c))) := by
  obtain ⟨h1, h2, h3, h4, h5, h6, h7, h8, h9, _⟩ := ho
  have a := h4 (by omega)
  have a' := h5 (by omega)
  exact tw_sw (by omega) (by omega) hd (tw_yu_2 h (by omega) (by omega))
theorem tw_yd_sk (e : k = 2) (ho : tw_ok k x z wp wc) (hd : s + 5 ≤ t ∨ t + 5 ≤ s) (h : tw_I ce t (tw_yd k x wc y b ce t s) wc f) : tw_G ce (upd f (t + x) (f (s + x) + y)) t wc (tw_td k x z y wc b (fun c => ce (s + c)) (fun c => ce (t + c))) := by
  subst e; exact tw_yd_s ho hd h
theorem tw_yd_5k (e : k = 5) (ho : tw_ok k x z wp wc) (hd : s + 5 ≤ t ∨ t + 5 ≤ s) (h : tw_I ce t (tw_yd k x wc y b ce t s) wc f) : tw_G ce (upd f (t + x) (f (s + x) + f (s + z))) t wc (tw_td k x z y wc b (fun c => ce (s + c)) (fun c => ce (t + c))) := by
  subst e; exact tw_yd_5 ho hd h
theorem tw_yd_4k (e : k = 4) (ho : tw_ok k x z wp wc) (hd : s + 5 ≤ t ∨ t + 5 ≤ s) (h : tw_I ce t (tw_yd k x wc y b ce t s) wc f) : tw_G ce (upd (upd f (t + x) (f (s + z))) (t + z) (upd f (t + x) (f (s + z)) (s + x))) t wc (tw_td k x z y wc b (fun c => ce (s + c)) (fun c => ce (t + c))) := by
  subst e; exact tw_yd_4 ho hd h
theorem tw_yu_sk (e : k = 2) (ho : tw_ok k x z wp wc) (hd : s + 5 ≤ t ∨ t + 5 ≤ s) (h : tw_I ce t (tw_yu k x y b ce t s) wp f) : tw_G ce (upd f (t + x) (f (s + x) - y)) t wp (tw_tp k x z y b (fun c => ce (s + c)) (fun c => ce (t + c))) := by
  subst e; exact tw_yu_s ho hd h
theorem tw_yu_5k (e : k = 5) (ho : tw_ok k x z wp wc) (hd : s + 5 ≤ t ∨ t + 5 ≤ s) (h : tw_I ce t (tw_yu k x y b ce t s) wp f) : tw_G ce (upd f (t + x) (f (s + x) - f (s + z))) t wp (tw_tp k x z y b (fun c => ce (s + c)) (fun c => ce (t + c))) := by
  subst e; exact tw_yu_5 ho hd h
theorem tw_yu_4k (e : k = 4) (ho : tw_ok k x z wp wc) (hd : s + 5 ≤ t ∨ t + 5 ≤ s) (h : tw_I ce t (tw_yu k x y b ce t s) wp f) : tw_G ce (upd (upd f (t + x) (f (s + z))) (t + z) (upd f (t + x) (f (s + z)) (s + x))) t wp (tw_tp k x z y b (fun c => ce (s + c)) (fun c => ce (t + c))) := by
  subst e; exact tw_yu_4 ho hd h
end
