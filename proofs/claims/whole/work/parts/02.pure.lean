/-! SchemaTwins, the pure side: the two edits' value functions, the version table, the way a row's values follow -/
theorem tw_ite {p : Prop} [Decidable p] {a b a' b' : Int32} (h1 : p → a = a') (h2 : ¬ p → b = b') : (if p then a else b) = (if p then a' else b') := by
  by_cases h : p
  · rw [if_pos h, if_pos h]; exact h1 h
  · rw [if_neg h, if_neg h]; exact h2 h
/-- a child's value in column c, by its parent's values s; o: what was there -/
def tw_td (k x z : Nat) (y : Int32) (wc : Nat) (b : Bool) (s o : Nat → Int32) (c : Nat) : Int32 :=
  match k with
  | 0 => if c + 1 = wc then (if b = true then y else o c) else s c
  | 1 => if c < x then s c else s (c + 1)
  | 2 => if c = x then s x + y else s c
  | 4 => if c = x then s z else if c = z then s x else s c
  | 5 => if c = x then s x + s z else s c
  | _ => s c
/-- a parent's value in column c, by its child's values s; o: what was there -/
def tw_tp (k x z : Nat) (y : Int32) (b : Bool) (s o : Nat → Int32) (c : Nat) : Int32 :=
  match k with
  | 1 => if c = x then (if b = true then y else o c) else if c < x then s c else s (c - 1)
  | 2 => if c = x then s x - y else s c
  | 4 => if c = x then s z else if c = z then s x else s c
  | 5 => if c = x then s x - s z else s c
  | _ => s c
/-- an edit k x z that fits a parent of wp columns and gives wc -/
def tw_ok (k x z wp wc : Nat) : Prop :=
  k ≤ 5 ∧ (1 ≤ wp ∧ wp ≤ 5) ∧ (1 ≤ wc ∧ wc ≤ 5) ∧ (k ≠ 0 → x < wp) ∧ (4 ≤ k → z < wp) ∧ (k = 5 → x ≠ z) ∧ (k = 0 → wc = wp + 1) ∧ (k = 1 → wc + 1 = wp) ∧ (2 ≤ k → wc = wp) ∧ x < 8 ∧ z < 8
theorem tw_td_c {k x z wp wc : Nat} {y : Int32} {b : Bool} {s s' o o' : Nat → Int32} (h : tw_ok k x z wp wc) (hs : ∀ c, c < wp → s c = s' c) (ho : b = false → ∀ c, c < wc → o c = o' c) (c : Nat) (hc : c < wc) : tw_td k x z y wc b s o c = tw_td k x z y wc b s' o' c := by
  obtain ⟨h1, h2, h3, h4, h5, h6, h7, h8, h9, _⟩ := h
  rcases (by omega : k = 0 ∨ k = 1 ∨ k = 2 ∨ k = 3 ∨ k = 4 ∨ k = 5) with e | e | e | e | e | e <;> subst e
  · exact tw_ite (fun _ => tw_ite (fun _ => rfl) (fun hb => ho (by simpa using hb) c hc)) (fun _ => hs c (by omega))
  · exact tw_ite (fun _ => hs _ (by omega)) (fun _ => hs _ (by omega))
  · exact tw_ite (fun _ => congrArg (· + y) (hs x (by omega))) (fun _ => hs _ (by omega))
  · exact hs _ (by omega)
  · exact tw_ite (fun _ => hs _ (by omega)) (fun _ => tw_ite (fun _ => hs _ (by omega)) (fun _ => hs _ (by omega)))
  · exact tw_ite (fun _ => by rw [hs x (by omega), hs z (by omega)]) (fun _ => hs _ (by omega))
theorem tw_tp_c {k x z wp wc : Nat} {y : Int32} {b : Bool} {s s' o o' : Nat → Int32} (h : tw_ok k x z wp wc) (hs : ∀ c, c < wc → s c = s' c) (ho : b = false → ∀ c, c < wp → o c = o' c) (c : Nat) (hc : c < wp) : tw_tp k x z y b s o c = tw_tp k x z y b s' o' c := by
  obtain ⟨h1, h2, h3, h4, h5, h6, h7, h8, h9, _⟩ := h
  rcases (by omega : k = 0 ∨ k = 1 ∨ k = 2 ∨ k = 3 ∨ k = 4 ∨ k = 5) with e | e | e | e | e | e <;> subst e
  · exact hs _ (by omega)
  · exact tw_ite (fun _ => tw_ite (fun _ => rfl) (fun hb => ho (by simpa using hb) c hc)) (fun _ => tw_ite (fun _ => hs _ (by omega)) (fun _ => hs _ (by omega)))
  · exact tw_ite (fun _ => congrArg (· - y) (hs x (by omega))) (fun _ => hs _ (by omega))
  · exact hs _ (by omega)
  · exact tw_ite (fun _ => hs _ (by omega)) (fun _ => tw_ite (fun _ => hs _ (by omega)) (fun _ => hs _ (by omega)))
  · exact tw_ite (fun _ => by rw [hs x (by omega), hs z (by omega)]) (fun _ => hs _ (by omega))
/-- the version table -/
def tw_wf (vs : Nat) (P K A Z W : Nat → Nat) : Prop :=
  1 ≤ vs ∧ vs ≤ 8 ∧ (∀ w, w < vs → 1 ≤ W w ∧ W w ≤ 5) ∧ ∀ w, 0 < w → w < vs → P w < w ∧ tw_ok (K w) (A w) (Z w) (W (P w)) (W w)
/-- the versions on the way from v to version 0 -/
def tw_path (vs v : Nat) (P : Nat → Nat) (rc : Nat → Int32) : Prop :=
  (∀ w, w < vs → rc w = 0 ∨ rc w = 1) ∧ rc v = 1 ∧ (∀ w, 0 < w → w < vs → rc w = 1 → rc (P w) = 1 ∧ P w ≠ v) ∧ (∀ w w', 0 < w → w < vs → 0 < w' → w' < vs → rc w = 1 → rc w' = 1 → P w = P w' → w = w')
/-- R: the values that follow from O's in version v -/
def tw_fin (vs v : Nat) (P K A Z W : Nat → Nat) (num : Nat → Int32) (b : Bool) (rc : Nat → Int32) (O R : Nat → Nat → Int32) : Prop :=
  (∀ c, c < W v → R v c = O v c) ∧ ∀ w, 0 < w → w < vs → (rc w = 1 → ∀ c, c < W (P w) → R (P w) c = tw_tp (K w) (A w) (Z w) (num w) b (R w) (O (P w)) c) ∧ (rc w = 0 → ∀ c, c < W w → R w c = tw_td (K w) (A w) (Z w) (num w) (W w) b (R (P w)) (O w) c)
theorem tw_fin_c {vs v : Nat} {P K A Z W : Nat → Nat} {num : Nat → Int32} {b : Bool} {rc : Nat → Int32} {O O' R : Nat → Nat → Int32} (hw : tw_wf vs P K A Z W) (hv : v < vs) (h : tw_fin vs v P K A Z W num b rc O R) (h1 : ∀ c, c < W v → O v c = O' v c) (h2 : b = false → ∀ w, w < vs → ∀ c, c < W w → O w c = O' w c) : tw_fin vs v P K A Z W num b rc O' R := by
  refine ⟨fun c hc => (h.1 c hc).trans (h1 c hc), fun w w0 w1 => ⟨fun hr c hc => ?_, fun hr c hc => ?_⟩⟩
  · have hq := hw.2.2.2 w w0 w1
    rw [(h.2 w w0 w1).1 hr c hc]
    exact tw_tp_c hq.2 (fun _ _ => rfl) (fun hb c hc => h2 hb (P w) (by omega) c hc) c hc
  · have hq := hw.2.2.2 w w0 w1
    rw [(h.2 w w0 w1).2 hr c hc]
    exact tw_td_c hq.2 (fun _ _ => rfl) (fun hb c hc => h2 hb w w1 c hc) c hc
/-- the reference's way: kn known, M the values so far -/
def tw_cy (vs : Nat) (P W : Nat → Nat) (rc : Nat → Int32) (O R : Nat → Nat → Int32) (kn : Nat → Int32) (M : Nat → Nat → Int32) : Prop :=
  (∀ w, w < vs → kn w = 0 ∨ kn w = 1) ∧ (∀ w, w < vs → kn w = 1 → ∀ c, c < W w → M w c = R w c) ∧ (∀ w, w < vs → kn w = 0 → ∀ c, c < W w → M w c = O w c) ∧ (∀ w, 0 < w → w < vs → kn w = 1 → rc w = 0 → kn (P w) = 1) ∧ (∀ w, 0 < w → w < vs → rc w = 1 → kn (P w) = 1 → kn w = 1)
theorem tw_01 : ¬ (0 : Int32) = 1 := by decide
theorem tw_10 : ¬ (1 : Int32) = 0 := by decide
theorem tw_cy_0 {vs v : Nat} {P K A Z W : Nat → Nat} {num : Nat → Int32} {b : Bool} {rc kn : Nat → Int32} {O R : Nat → Nat → Int32} (hp : tw_path vs v P rc) (hf : tw_fin vs v P K A Z W num b rc O R) (hk : ∀ w, w < vs → kn w = if w = v then 1 else 0) (hq : ∀ w, 0 < w → w < vs → P w < vs) : tw_cy vs P W rc O R kn O := by
  refine ⟨fun w hw => ?_, fun w hw k c hc => ?_, fun w hw _ c hc => rfl, fun w w0 w1 k r => ?_, fun w w0 w1 r k => ?_⟩
  · rw [hk w hw]
    by_cases e : w = v
    · rw [if_pos e]; exact Or.inr rfl
    · rw [if_neg e]; exact Or.inl rfl
  · rw [hk w hw] at k
    by_cases e : w = v
    · subst e; exact (hf.1 c hc).symm
    · rw [if_neg e] at k; exact absurd k tw_01
  · rw [hk w w1] at k
    by_cases e : w = v
    · subst e; rw [hp.2.1] at r; exact absurd r tw_10
    · rw [if_neg e] at k; exact absurd k tw_01
  · rw [hk _ (hq w w0 w1), if_neg (hp.2.2.1 w w0 w1 r).2] at k
    exact absurd k tw_01
theorem tw_cy_d {vs v : Nat} {P K A Z W : Nat → Nat} {num : Nat → Int32} {b : Bool} {rc kn : Nat → Int32} {O R M M' : Nat → Nat → Int32} (hw : tw_wf vs P K A Z W) (hp : tw_path vs v P rc) (hf : tw_fin vs v P K A Z W num b rc O R) (h : tw_cy vs P W rc O R kn M) {w : Nat} (w0 : 0 < w) (w1 : w < vs) (kp : kn (P w) = 1) (kw : kn w = 0)
    (hM : ∀ c, c < W w → M' w c = tw_td (K w) (A w) (Z w) (num w) (W w) b (M (P w)) (M w) c) (hN : ∀ u, u < vs → u ≠ w → ∀ c, c < W u → M' u c = M u c) : tw_cy vs P W rc O R (upd kn w 1) M' := by
  obtain ⟨a1, a2, a3, a4, a5⟩ := h
  have hq := hw.2.2.2 w w0 w1
  have r0 : rc w = 0 := by
    rcases hp.1 w w1 with h | h
    · exact h
    · have := a5 w w0 w1 h kp
      rw [kw] at this; exact absurd this tw_01
  refine ⟨fun u hu => ?_, fun u hu ku c hc => ?_, fun u hu ku c hc => ?_, fun u u0 u1 ku ru => ?_, fun u u0 u1 ru ku => ?_⟩
  · by_cases e : u = w
    · subst e; exact Or.inr pk_us
    · rw [pk_un e]; exact a1 u hu
  · by_cases e : u = w
    · subst e
      rw [hM c hc, (hf.2 u w0 w1).2 r0 c hc]
      exact tw_td_c hq.2 (fun c hc => a2 (P u) (by omega) kp c hc) (fun _ c hc => a3 u hu kw c hc) c hc
    · rw [pk_un e] at ku; rw [hN u hu e c hc]; exact a2 u hu ku c hc
  · by_cases e : u = w
    · subst e; rw [pk_us] at ku; exact absurd ku tw_10
    · rw [pk_un e] at ku; rw [hN u hu e c hc]; exact a3 u hu ku c hc
  · by_cases e2 : P u = w
    · rw [e2]; exact pk_us
    · rw [pk_un e2]
      by_cases e : u = w
      · subst e; exact kp
      · rw [pk_un e] at ku; exact a4 u u0 u1 ku ru
  · by_cases e : u = w
    · subst e; exact pk_us
    · rw [pk_un e]
      by_cases e2 : P u = w
      · have := (hp.2.2.1 u u0 u1 ru).1
        rw [e2, r0] at this; exact absurd this tw_01
      · rw [pk_un e2] at ku; exact a5 u u0 u1 ru ku
theorem tw_cy_u {vs v : Nat} {P K A Z W : Nat → Nat} {num : Nat → Int32} {b : Bool} {rc kn : Nat → Int32} {O R M M' : Nat → Nat → Int32} (hw : tw_wf vs P K A Z W) (hp : tw_path vs v P rc) (hf : tw_fin vs v P K A Z W num b rc O R) (h : tw_cy vs P W rc O R kn M) {w : Nat} (w0 : 0 < w) (w1 : w < vs) (kp : kn (P w) = 0) (kw : kn w = 1)
    (hM : ∀ c, c < W (P w) → M' (P w) c = tw_tp (K w) (A w) (Z w) (num w) b (M w) (M (P w)) c) (hN : ∀ u, u < vs → u ≠ P w → ∀ c, c < W u → M' u c = M u c) : tw_cy vs P W rc O R (upd kn (P w) 1) M' := by
  obtain ⟨a1, a2, a3, a4, a5⟩ := h
  have hq := hw.2.2.2 w w0 w1
  have r1 : rc w = 1 := by
    rcases hp.1 w w1 with h | h
    · have := a4 w w0 w1 kw h
      rw [kp] at this; exact absurd this tw_01
    · exact h
  refine ⟨fun u hu => ?_, fun u hu ku c hc => ?_, fun u hu ku c hc => ?_, fun u u0 u1 ku ru => ?_, fun u u0 u1 ru ku => ?_⟩
  · by_cases e : u = P w
    · rw [e]; exact Or.inr pk_us
    · rw [pk_un e]; exact a1 u hu
  · by_cases e : u = P w
    · rw [e] at hc ⊢
      rw [hM c hc, (hf.2 w w0 w1).1 r1 c hc]
      exact tw_tp_c hq.2 (fun c hc => a2 w w1 kw c hc) (fun _ c hc => a3 (P w) (by omega) kp c hc) c hc
    · rw [pk_un e] at ku; rw [hN u hu e c hc]; exact a2 u hu ku c hc
  · by_cases e : u = P w
    · rw [e, pk_us] at ku; exact absurd ku tw_10
    · rw [pk_un e] at ku; rw [hN u hu e c hc]; exact a3 u hu ku c hc
  · by_cases e2 : P u = P w
    · rw [e2]; exact pk_us
    · rw [pk_un e2]
      by_cases e : u = P w
      · have := (hp.2.2.1 w w0 w1 r1).1
        rw [← e, ru] at this; exact absurd this tw_01
      · rw [pk_un e] at ku; exact a4 u u0 u1 ku ru
  · by_cases e : u = P w
    · rw [e]; exact pk_us
    · rw [pk_un e]
      by_cases e2 : P u = P w
      · rw [hp.2.2.2 u w u0 u1 w0 w1 ru r1 e2]; exact kw
      · rw [pk_un e2] at ku; exact a5 u u0 u1 ru ku
/-- is a row shown: from version w back to version 0 -/
def tw_ps (P K A : Nat → Nat) (num : Nat → Int32) (g : Nat → Nat → Int32) : Nat → Nat → Bool
  | 0, _ => true
  | n + 1, w => if w = 0 then true else if K w = 3 ∧ g w (A w) < num w then false else tw_ps P K A num g n (P w)
theorem tw_ps_c {vs : Nat} {P K A Z W : Nat → Nat} {num : Nat → Int32} {g g' : Nat → Nat → Int32} (hw : tw_wf vs P K A Z W) (h : ∀ w, w < vs → ∀ c, c < W w → g w c = g' w c) : ∀ n w, w < vs → tw_ps P K A num g n w = tw_ps P K A num g' n w := by
  intro n
  induction n with
  | zero => intro w _; rfl
  | succ n ih =>
    intro w hv
    unfold tw_ps
    by_cases e : w = 0
    · rw [if_pos e, if_pos e]
    · rw [if_neg e, if_neg e]
      have hq := hw.2.2.2 w (by omega) hv
      rw [ih (P w) (by omega)]
      by_cases k3 : K w = 3
      · have hx : A w < W w := by
          obtain ⟨h1, h2, h3, h4, h5, h6, h7, h8, h9, _⟩ := hq.2
          have := h4 (by omega); have := h9 (by omega); omega
        rw [h w hv _ hx]
      · have n1 : ¬ (K w = 3 ∧ g w (A w) < num w) := fun q => k3 q.1
        have n2 : ¬ (K w = 3 ∧ g' w (A w) < num w) := fun q => k3 q.1
        rw [if_neg n1, if_neg n2]
/-- a fold over the rows that are shown -/
def tw_sum (sh : Nat → Bool) (f : Nat → Int32) : Nat → Int32
  | 0 => 0
  | r + 1 => if sh r = true then tw_sum sh f r + f r else tw_sum sh f r
theorem tw_sum_c {sh sh' : Nat → Bool} {f f' : Nat → Int32} : ∀ n, (∀ r, r < n → sh r = sh' r) → (∀ r, r < n → f r = f' r) → tw_sum sh f n = tw_sum sh' f' n := by
  intro n
  induction n with
  | zero => intro _ _; rfl
  | succ n ih =>
    intro h1 h2
    unfold tw_sum
    rw [ih (fun r hr => h1 r (by omega)) (fun r hr => h2 r (by omega)), h1 n (by omega), h2 n (by omega)]
/-- the key of row number kk of those shown -/
def tw_key (sh : Nat → Bool) (ky : Nat → Nat) (kk : Int32) : Nat → Nat → Int32 → Int32
  | 0, _, _ => -5
  | d + 1, r, b => if sh r = true then (if b = kk then nI (ky r) else tw_key sh ky kk d (r + 1) (b + 1)) else tw_key sh ky kk d (r + 1) b
/-- r rows lie below key k -/
def tw_at (n : Nat) (ky : Nat → Nat) (k r : Nat) : Prop := r ≤ n ∧ (∀ q, q < r → ky q < k) ∧ (∀ q, r ≤ q → q < n → k ≤ ky q)
theorem tw_at_0 {n : Nat} {ky : Nat → Nat} : tw_at n ky 0 0 := ⟨Nat.zero_le _, fun q hq => absurd hq (Nat.not_lt_zero _), fun _ _ _ => Nat.zero_le _⟩
theorem tw_at_e {n r : Nat} {ky : Nat → Nat} (h : tw_at n ky 100 r) (hk : ∀ q, q < n → ky q < 100) : r = n := by
  obtain ⟨h1, h2, h3⟩ := h
  by_cases e : r = n
  · exact e
  · have a := h3 r (Nat.le_refl _) (by omega)
    have b := hk r (by omega)
    omega
theorem tw_at_n {n k r : Nat} {ky : Nat → Nat} (h : tw_at n ky k r) (hn : ∀ q, q < n → ky q ≠ k) : tw_at n ky (k + 1) r := by
  obtain ⟨h1, h2, h3⟩ := h
  refine ⟨h1, fun q hq => ?_, fun q h4 h5 => ?_⟩
  · have := h2 q hq; omega
  · have := h3 q h4 h5; have := hn q h5; omega
theorem tw_at_s {n k r q : Nat} {ky : Nat → Nat} (h : tw_at n ky k r) (hs : ∀ a b, a < b → b < n → ky a < ky b) (hq : q < n) (e : ky q = k) : q = r ∧ tw_at n ky (k + 1) (r + 1) := by
  obtain ⟨h1, h2, h3⟩ := h
  have qr : r ≤ q := by
    by_cases z : q < r
    · have := h2 q z; omega
    · omega
  have e2 : q = r := by
    by_cases z : r < q
    · have a := hs r q z hq
      have b := h3 r (Nat.le_refl _) (by omega)
      omega
    · omega
  subst e2
  refine ⟨rfl, by omega, fun p hp => ?_, fun p h4 h5 => ?_⟩
  · by_cases z : p < q
    · have := h2 p z; omega
    · have : p = q := by omega
      subst this; omega
  · have := hs q p (by omega) h5; omega
