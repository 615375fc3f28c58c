section
theorem pk_us {f : Nat → Int32} {k : Nat} {x : Int32} : upd f k x k = x := if_pos rfl
theorem pk_un {f : Nat → Int32} {k j : Nat} {x : Int32} (h : j ≠ k) : upd f k x j = f j := if_neg h
theorem pk_sub {a b : Nat} (h : b ≤ a) : nI a - nI b = nI (a - b) := by
  obtain ⟨c, rfl⟩ : ∃ c, a = c + b := ⟨a - b, by omega⟩
  rw [← nI_add, Int32.add_sub_cancel, Nat.add_sub_cancel]
theorem pk_m1 (n : Nat) : nI (n + 1) + (-1) = nI n := by
  rw [← nI_1, Int32.add_assoc, show (1 : Int32) + (-1) = 0 from rfl, Int32.add_zero]
theorem pk_mul (a b : Nat) : nI a * nI b = nI (a * b) := (Int32.ofNat_mul a b).symm
theorem pk_ix (x : Int32) {n : Nat} (hn : n < 2 ^ 31) : x < 0 ∨ nI n ≤ x ∨ ∃ j : Nat, j < n ∧ x = nI j := by
  by_cases h : x < 0
  · exact Or.inl h
  · obtain ⟨j, hj, rfl⟩ := nI_of h
    by_cases h2 : j < n
    · exact Or.inr (Or.inr ⟨j, h2, rfl⟩)
    · exact Or.inr (Or.inl (nI_le (by omega) hj))
theorem pk_le {x y : Int32} {A B : Prop} (a b : Nat) (f : a ≤ b → A) (g : b < a → B) (hx : x = nI a := by rfl) (hy : y = nI b := by rfl) (ha : a < 2 ^ 31 := by omega) (hb : b < 2 ^ 31 := by omega) : (x ≤ y → A) ∧ (¬ x ≤ y → B) := by
  subst hx hy
  rw [nI_leI ha hb]
  exact ⟨f, fun z => g (by omega)⟩
theorem pk_lt {x y : Int32} {A B : Prop} (a b : Nat) (f : a < b → A) (g : b ≤ a → B) (hx : x = nI a := by rfl) (hy : y = nI b := by rfl) (ha : a < 2 ^ 31 := by omega) (hb : b < 2 ^ 31 := by omega) : (x < y → A) ∧ (¬ x < y → B) := by
  subst hx hy
  rw [nI_ltI ha hb]
  exact ⟨f, fun z => g (by omega)⟩
theorem pk_eq {x y : Int32} {A B : Prop} (a b : Nat) (f : a = b → A) (g : a ≠ b → B) (hx : x = nI a := by rfl) (hy : y = nI b := by rfl) (ha : a < 2 ^ 31 := by omega) (hb : b < 2 ^ 31 := by omega) : (x = y → A) ∧ (¬ x = y → B) := by
  subst hx hy
  rw [nI_eq ha hb]
  exact ⟨f, g⟩
theorem pk_in {x : Int32} (n N : Nat) (h : n < N) (hx : x = nI n := by rfl) (hN : N < 2 ^ 31 := by omega) : vp_in x N := by
  subst hx
  exact vp_in_nI h hN
theorem pk_cl {x : Int32} (n : Nat) (hx : x = nI n := by rfl) (h : n < 2 ^ 31 := by omega) : x.toNatClampNeg = n := by
  subst hx
  exact nI_clamp h
theorem pk_tn {n : Nat} (h : n < 2 ^ 32) : (nI n).toBitVec.toNat = n := Nat.mod_eq_of_lt h
theorem pk_and (x : Int32) {m : Int32} (k : Nat) (hm : m.toBitVec.toNat = 2 ^ k - 1) : x &&& m = nI (x.toBitVec.toNat % 2 ^ k) := by
  apply Int32.toBitVec_inj.mp
  apply BitVec.eq_of_toNat_eq
  rw [Int32.toBitVec_and, BitVec.toNat_and, hm, Nat.and_two_pow_sub_one_eq_mod]
  show _ = (BitVec.ofNat 32 _).toNat
  rw [BitVec.toNat_ofNat]
  exact (Nat.mod_eq_of_lt (Nat.lt_of_le_of_lt (Nat.mod_le _ _) x.toBitVec.isLt)).symm
theorem pk_andN {n : Nat} (h : n < 2 ^ 32) {m : Int32} (k : Nat) (hm : m.toBitVec.toNat = 2 ^ k - 1) : nI n &&& m = nI (n % 2 ^ k) := by
  rw [pk_and _ k hm, pk_tn h]
theorem pk_shr (a s : Int32) (k : Nat) (hs : (s.toBitVec.smod 32).toNat = k) : (a >>> s).toInt = a.toInt >>> k := by
  show (a.toBitVec.sshiftRight (s.toBitVec.smod 32).toNat).toInt = _
  rw [hs, BitVec.toInt_sshiftRight]
  rfl
theorem pk_shrN {n : Nat} (h : n < 2 ^ 31) (s : Int32) (k : Nat) (hs : (s.toBitVec.smod 32).toNat = k) : nI n >>> s = nI (n / 2 ^ k) := by
  apply Int32.toInt_inj.mp
  have h2 : n / 2 ^ k ≤ n := Nat.div_le_self _ _
  rw [pk_shr _ _ k hs, nI_toInt h, nI_toInt (by omega), Int.shiftRight_eq_div_pow]
  rfl
end
section
/-! SchemaTwins, the pure side: the two edits' value functions, the version table, the way a row's values follow -/
theorem tw_ite {p : Prop} [Decidable p] {a b a' b' : Int32} (h1 : p → a = a') (h2 : ¬ p → b = b') : (if p then a else b) = (if p then a' else b') := by
  by_cases h : p
  · rw [if_pos h, if_pos h]; exact h1 h
  · rw [if_neg h, if_neg h]; exact h2 h
/-- a child's value in column c, by its parent's values s; o: what was there -/
def tw_td (k x z : Nat) (y : Int32) (wc : Nat) (b : Bool) (s o : Nat → Int32) (c : Nat) : Int32 :=
  match k with
  | 0 => if c + 1 = wc then (if b = true then y else o c) else s c
  | 1 => if c < x then s c else s (c + 1)
  | 2 => if c = x then s x + y else s c
  | 4 => if c = x then s z else if c = z then s x else s c
  | 5 => if c = x then s x + s z else s c
  | _ => s c
/-- a parent's value in column c, by its child's values s; o: what was there -/
def tw_tp (k x z : Nat) (y : Int32) (b : Bool) (s o : Nat → Int32) (c : Nat) : Int32 :=
  match k with
  | 1 => if c = x then (if b = true then y else o c) else if c < x then s c else s (c - 1)
  | 2 => if c = x then s x - y else s c
  | 4 => if c = x then s z else if c = z then s x else s c
  | 5 => if c = x then s x - s z else s c
  | _ => s c
/-- an edit k x z that fits a parent of wp columns and gives wc -/
def tw_ok (k x z wp wc : Nat) : Prop :=
  k ≤ 5 ∧ (1 ≤ wp ∧ wp ≤ 5) ∧ (1 ≤ wc ∧ wc ≤ 5) ∧ (k ≠ 0 → x < wp) ∧ (4 ≤ k → z < wp) ∧ (k = 5 → x ≠ z) ∧ (k = 0 → wc = wp + 1) ∧ (k = 1 → wc + 1 = wp) ∧ (2 ≤ k → wc = wp) ∧ x < 8 ∧ z < 8
theorem tw_td_c {k x z wp wc : Nat} {y : Int32} {b : Bool} {s s' o o' : Nat → Int32} (h : tw_ok k x z wp wc) (hs : ∀ c, c < wp → s c = s' c) (ho : b = false → ∀ c, c < wc → o c = o' c) (c : Nat) (hc : c < wc) : tw_td k x z y wc b s o c = tw_td k x z y wc b s' o' c := by
  obtain ⟨h1, h2, h3, h4, h5, h6, h7, h8, h9, _⟩ := h
  rcases (by omega : k = 0 ∨ k = 1 ∨ k = 2 ∨ k = 3 ∨ k = 4 ∨ k = 5) with e | e | e | e | e | e <;> subst e
  · exact tw_ite (fun _ => tw_ite (fun _ => rfl) (fun hb => ho (by simpa using hb) c hc)) (fun _ => hs c (by omega))
  · exact tw_ite (fun _ => hs _ (by omega)) (fun _ => hs _ (by omega))
  · exact tw_ite (fun _ => congrArg (· + y) (hs x (by omega))) (fun _ => hs _ (by omega))
  · exact hs _ (by omega)
  · exact tw_ite (fun _ => hs _ (by omega)) (fun _ => tw_ite (fun _ => hs _ (by omega)) (fun _ => hs _ (by omega)))
  · exact tw_ite (fun _ => by rw [hs x (by omega), hs z (by omega)]) (fun _ => hs _ (by omega))
theorem tw_tp_c {k x z wp wc : Nat} {y : Int32} {b : Bool} {s s' o o' : Nat → Int32} (h : tw_ok k x z wp wc) (hs : ∀ c, c < wc → s c = s' c) (ho : b = false → ∀ c, c < wp → o c = o' c) (c : Nat) (hc : c < wp) : tw_tp k x z y b s o c = tw_tp k x z y b s' o' c := by
  obtain ⟨h1, h2, h3, h4, h5, h6, h7, h8, h9, _⟩ := h
  rcases (by omega : k = 0 ∨ k = 1 ∨ k = 2 ∨ k = 3 ∨ k = 4 ∨ k = 5) with e | e | e | e | e | e <;> subst e
  · exact hs _ (by omega)
  · exact tw_ite (fun _ => tw_ite (fun _ => rfl) (fun hb => ho (by simpa using hb) c hc)) (fun _ => tw_ite (fun _ => hs _ (by omega)) (fun _ => hs _ (by omega)))
  · exact tw_ite (fun _ => congrArg (· - y) (hs x (by omega))) (fun _ => hs _ (by omega))
  · exact hs _ (by omega)
  · exact tw_ite (fun _ => hs _ (by omega)) (fun _ => tw_ite (fun _ => hs _ (by omega)) (fun _ => hs _ (by omega)))
  · exact tw_ite (fun _ => by rw [hs x (by omega), hs z (by omega)]) (fun _ => hs _ (by omega))
/-- the version table -/
def tw_wf (vs : Nat) (P K A Z W : Nat → Nat) : Prop :=
  1 ≤ vs ∧ vs ≤ 8 ∧ (∀ w, w < vs → 1 ≤ W w ∧ W w ≤ 5) ∧ ∀ w, 0 < w → w < vs → P w < w ∧ tw_ok (K w) (A w) (Z w) (W (P w)) (W w)
/-- the versions on the way from v to version 0 -/
def tw_path (vs v : Nat) (P : Nat → Nat) (rc : Nat → Int32) : Prop :=
  (∀ w, w < vs → rc w = 0 ∨ rc w = 1) ∧ rc v = 1 ∧ (∀ w, 0 < w → w < vs → rc w = 1 → rc (P w) = 1 ∧ P w ≠ v) ∧ (∀ w w', 0 < w → w < vs → 0 < w' → w' < vs → rc w = 1 → rc w' = 1 → P w = P w' → w = w')
/-- R: the values that follow from O's in version v -/
def tw_fin (vs v : Nat) (P K A Z W : Nat → Nat) (num : Nat → Int32) (b : Bool) (rc : Nat → Int32) (O R : Nat → Nat → Int32) : Prop :=
  (∀ c, c < W v → R v c = O v c) ∧ ∀ w, 0 < w → w < vs → (rc w = 1 → ∀ c, c < W (P w) → R (P w) c = tw_tp (K w) (A w) (Z w) (num w) b (R w) (O (P w)) c) ∧ (rc w = 0 → ∀ c, c < W w → R w c = tw_td (K w) (A w) (Z w) (num w) (W w) b (R (P w)) (O w) c)
theorem tw_fin_c {vs v : Nat} {P K A Z W : Nat → Nat} {num : Nat → Int32} {b : Bool} {rc : Nat → Int32} {O O' R : Nat → Nat → Int32} (hw : tw_wf vs P K A Z W) (hv : v < vs) (h : tw_fin vs v P K A Z W num b rc O R) (h1 : ∀ c, c < W v → O v c = O' v c) (h2 : b = false → ∀ w, w < vs → ∀ c, c < W w → O w c = O' w c) : tw_fin vs v P K A Z W num b rc O' R := by
  refine ⟨fun c hc => (h.1 c hc).trans (h1 c hc), fun w w0 w1 => ⟨fun hr c hc => ?_, fun hr c hc => ?_⟩⟩
  · have hq := hw.2.2.2 w w0 w1
    rw [(h.2 w w0 w1).1 hr c hc]
    exact tw_tp_c hq.2 (fun _ _ => rfl) (fun hb c hc => h2 hb (P w) (by omega) c hc) c hc
  · have hq := hw.2.2.2 w w0 w1
    rw [(h.2 w w0 w1).2 hr c hc]
    exact tw_td_c hq.2 (fun _ _ => rfl) (fun hb c hc => h2 hb w w1 c hc) c hc
/-- the reference's way: kn known, M the values so far -/
def tw_cy (vs : Nat) (P W : Nat → Nat) (rc : Nat → Int32) (O R : Nat → Nat → Int32) (kn : Nat → Int32) (M : Nat → Nat → Int32) : Prop :=
  (∀ w, w < vs → kn w = 0 ∨ kn w = 1) ∧ (∀ w, w < vs → kn w = 1 → ∀ c, c < W w → M w c = R w c) ∧ (∀ w, w < vs → kn w = 0 → ∀ c, c < W w → M w c = O w c) ∧ (∀ w, 0 < w → w < vs → kn w = 1 → rc w = 0 → kn (P w) = 1) ∧ (∀ w, 0 < w → w < vs → rc w = 1 → kn (P w) = 1 → kn w = 1)
theorem tw_01 : ¬ (0 : Int32) = 1 := by decide
theorem tw_10 : ¬ (1 : Int32) = 0 := by decide
theorem tw_cy_0 {vs v : Nat} {P K A Z W : Nat → Nat} {num : Nat → Int32} {b : Bool} {rc kn : Nat → Int32} {O R : Nat → Nat → Int32} (hp : tw_path vs v P rc) (hf : tw_fin vs v P K A Z W num b rc O R) (hk : ∀ w, w < vs → kn w = if w = v then 1 else 0) (hq : ∀ w, 0 < w → w < vs → P w < vs) : tw_cy vs P W rc O R kn O := by
  refine ⟨fun w hw => ?_, fun w hw k c hc => ?_, fun w hw _ c hc => rfl, fun w w0 w1 k r => ?_, fun w w0 w1 r k => ?_⟩
  · rw [hk w hw]
    by_cases e : w = v
    · rw [if_pos e]; exact Or.inr rfl
    · rw [if_neg e]; exact Or.inl rfl
  · rw [hk w hw] at k
    by_cases e : w = v
    · subst e; exact (hf.1 c hc).symm
    · rw [if_neg e] at k; exact absurd k tw_01
  · rw [hk w w1] at k
    by_cases e : w = v
    · subst e; rw [hp.2.1] at r; exact absurd r tw_10
    · rw [if_neg e] at k; exact absurd k tw_01
  · rw [hk _ (hq w w0 w1), if_neg (hp.2.2.1 w w0 w1 r).2] at k
    exact absurd k tw_01
theorem tw_cy_d {vs v : Nat} {P K A Z W : Nat → Nat} {num : Nat → Int32} {b : Bool} {rc kn : Nat → Int32} {O R M M' : Nat → Nat → Int32} (hw : tw_wf vs P K A Z W) (hp : tw_path vs v P rc) (hf : tw_fin vs v P K A Z W num b rc O R) (h : tw_cy vs P W rc O R kn M) {w : Nat} (w0 : 0 < w) (w1 : w < vs) (kp : kn (P w) = 1) (kw : kn w = 0)
    (hM : ∀ c, c < W w → M' w c = tw_td (K w) (A w) (Z w) (num w) (W w) b (M (P w)) (M w) c) (hN : ∀ u, u < vs → u ≠ w → ∀ c, c < W u → M' u c = M u c) : tw_cy vs P W rc O R (upd kn w 1) M' := by
  obtain ⟨a1, a2, a3, a4, a5⟩ := h
  have hq := hw.2.2.2 w w0 w1
  have r0 : rc w = 0 := by
    rcases hp.1 w w1 with h | h
    · exact h
    · have := a5 w w0 w1 h kp
      rw [kw] at this; exact absurd this tw_01
  refine ⟨fun u hu => ?_, fun u hu ku c hc => ?_, fun u hu ku c hc => ?_, fun u u0 u1 ku ru => ?_, fun u u0 u1 ru ku => ?_⟩
  · by_cases e : u = w
    · subst e; exact Or.inr pk_us
    · rw [pk_un e]; exact a1 u hu
  · by_cases e : u = w
    · subst e
      rw [hM c hc, (hf.2 u w0 w1).2 r0 c hc]
      exact tw_td_c hq.2 (fun c hc => a2 (P u) (by omega) kp c hc) (fun _ c hc => a3 u hu kw c hc) c hc
    · rw [pk_un e] at ku; rw [hN u hu e c hc]; exact a2 u hu ku c hc
  · by_cases e : u = w
    · subst e; rw [pk_us] at ku; exact absurd ku tw_10
    · rw [pk_un e] at ku; rw [hN u hu e c hc]; exact a3 u hu ku c hc
  · by_cases e2 : P u = w
    · rw [e2]; exact pk_us
    · rw [pk_un e2]
      by_cases e : u = w
      · subst e; exact kp
      · rw [pk_un e] at ku; exact a4 u u0 u1 ku ru
  · by_cases e : u = w
    · subst e; exact pk_us
    · rw [pk_un e]
      by_cases e2 : P u = w
      · have := (hp.2.2.1 u u0 u1 ru).1
        rw [e2, r0] at this; exact absurd this tw_01
      · rw [pk_un e2] at ku; exact a5 u u0 u1 ru ku
theorem tw_cy_u {vs v : Nat} {P K A Z W : Nat → Nat} {num : Nat → Int32} {b : Bool} {rc kn : Nat → Int32} {O R M M' : Nat → Nat → Int32} (hw : tw_wf vs P K A Z W) (hp : tw_path vs v P rc) (hf : tw_fin vs v P K A Z W num b rc O R) (h : tw_cy vs P W rc O R kn M) {w : Nat} (w0 : 0 < w) (w1 : w < vs) (kp : kn (P w) = 0) (kw : kn w = 1)
    (hM : ∀ c, c < W (P w) → M' (P w) c = tw_tp (K w) (A w) (Z w) (num w) b (M w) (M (P w)) c) (hN : ∀ u, u < vs → u ≠ P w → ∀ c, c < W u → M' u c = M u c) : tw_cy vs P W rc O R (upd kn (P w) 1) M' := by
  obtain ⟨a1, a2, a3, a4, a5⟩ := h
  have hq := hw.2.2.2 w w0 w1
  have r1 : rc w = 1 := by
    rcases hp.1 w w1 with h | h
    · have := a4 w w0 w1 kw h
      rw [kp] at this; exact absurd this tw_01
    · exact h
  refine ⟨fun u hu => ?_, fun u hu ku c hc => ?_, fun u hu ku c hc => ?_, fun u u0 u1 ku ru => ?_, fun u u0 u1 ru ku => ?_⟩
  · by_cases e : u = P w
    · rw [e]; exact Or.inr pk_us
    · rw [pk_un e]; exact a1 u hu
  · by_cases e : u = P w
    · rw [e] at hc ⊢
      rw [hM c hc, (hf.2 w w0 w1).1 r1 c hc]
      exact tw_tp_c hq.2 (fun c hc => a2 w w1 kw c hc) (fun _ c hc => a3 (P w) (by omega) kp c hc) c hc
    · rw [pk_un e] at ku; rw [hN u hu e c hc]; exact a2 u hu ku c hc
  · by_cases e : u = P w
    · rw [e, pk_us] at ku; exact absurd ku tw_10
    · rw [pk_un e] at ku; rw [hN u hu e c hc]; exact a3 u hu ku c hc
  · by_cases e2 : P u = P w
    · rw [e2]; exact pk_us
    · rw [pk_un e2]
      by_cases e : u = P w
      · have := (hp.2.2.1 w w0 w1 r1).1
        rw [← e, ru] at this; exact absurd this tw_01
      · rw [pk_un e] at ku; exact a4 u u0 u1 ku ru
  · by_cases e : u = P w
    · rw [e]; exact pk_us
    · rw [pk_un e]
      by_cases e2 : P u = P w
      · rw [hp.2.2.2 u w u0 u1 w0 w1 ru r1 e2]; exact kw
      · rw [pk_un e2] at ku; exact a5 u u0 u1 ru ku
/-- is a row shown: from version w back to version 0 -/
def tw_ps (P K A : Nat → Nat) (num : Nat → Int32) (g : Nat → Nat → Int32) : Nat → Nat → Bool
  | 0, _ => true
  | n + 1, w => if w = 0 then true else if K w = 3 ∧ g w (A w) < num w then false else tw_ps P K A num g n (P w)
theorem tw_ps_c {vs : Nat} {P K A Z W : Nat → Nat} {num : Nat → Int32} {g g' : Nat → Nat → Int32} (hw : tw_wf vs P K A Z W) (h : ∀ w, w < vs → ∀ c, c < W w → g w c = g' w c) : ∀ n w, w < vs → tw_ps P K A num g n w = tw_ps P K A num g' n w := by
  intro n
  induction n with
  | zero => intro w _; rfl
  | succ n ih =>
    intro w hv
    unfold tw_ps
    by_cases e : w = 0
    · rw [if_pos e, if_pos e]
    · rw [if_neg e, if_neg e]
      have hq := hw.2.2.2 w (by omega) hv
      rw [ih (P w) (by omega)]
      by_cases k3 : K w = 3
      · have hx : A w < W w := by
          obtain ⟨h1, h2, h3, h4, h5, h6, h7, h8, h9, _⟩ := hq.2
          have := h4 (by omega); have := h9 (by omega); omega
        rw [h w hv _ hx]
      · have n1 : ¬ (K w = 3 ∧ g w (A w) < num w) := fun q => k3 q.1
        have n2 : ¬ (K w = 3 ∧ g' w (A w) < num w) := fun q => k3 q.1
        rw [if_neg n1, if_neg n2]
/-- a fold over the rows that are shown -/
def tw_sum (sh : Nat → Bool) (f : Nat → Int32) : Nat → Int32
  | 0 => 0
  | r + 1 => if sh r = true then tw_sum sh f r + f r else tw_sum sh f r
theorem tw_sum_c {sh sh' : Nat → Bool} {f f' : Nat → Int32} : ∀ n, (∀ r, r < n → sh r = sh' r) → (∀ r, r < n → f r = f' r) → tw_sum sh f n = tw_sum sh' f' n := by
  intro n
  induction n with
  | zero => intro _ _; rfl
  | succ n ih =>
    intro h1 h2
    unfold tw_sum
    rw [ih (fun r hr => h1 r (by omega)) (fun r hr => h2 r (by omega)), h1 n (by omega), h2 n (by omega)]
/-- the key of row number kk of those shown -/
def tw_key (sh : Nat → Bool) (ky : Nat → Nat) (kk : Int32) : Nat → Nat → Int32 → Int32
  | 0, _, _ => -5
  | d + 1, r, b => if sh r = true then (if b = kk then nI (ky r) else tw_key sh ky kk d (r + 1) (b + 1)) else tw_key sh ky kk d (r + 1) b
/-- r rows lie below key k -/
def tw_at (n : Nat) (ky : Nat → Nat) (k r : Nat) : Prop := r ≤ n ∧ (∀ q, q < r → ky q < k) ∧ (∀ q, r ≤ q → q < n → k ≤ ky q)
theorem tw_at_0 {n : Nat} {ky : Nat → Nat} : tw_at n ky 0 0 := ⟨Nat.zero_le _, fun q hq => absurd hq (Nat.not_lt_zero _), fun _ _ _ => Nat.zero_le _⟩
theorem tw_at_e {n r : Nat} {ky : Nat → Nat} (h : tw_at n ky 100 r) (hk : ∀ q, q < n → ky q < 100) : r = n := by
  obtain ⟨h1, h2, h3⟩ := h
  by_cases e : r = n
  · exact e
  · have a := h3 r (Nat.le_refl _) (by omega)
    have b := hk r (by omega)
    omega
theorem tw_at_n {n k r : Nat} {ky : Nat → Nat} (h : tw_at n ky k r) (hn : ∀ q, q < n → ky q ≠ k) : tw_at n ky (k + 1) r := by
  obtain ⟨h1, h2, h3⟩ := h
  refine ⟨h1, fun q hq => ?_, fun q h4 h5 => ?_⟩
  · have := h2 q hq; omega
  · have := h3 q h4 h5; have := hn q h5; omega
theorem tw_at_s {n k r q : Nat} {ky : Nat → Nat} (h : tw_at n ky k r) (hs : ∀ a b, a < b → b < n → ky a < ky b) (hq : q < n) (e : ky q = k) : q = r ∧ tw_at n ky (k + 1) (r + 1) := by
  obtain ⟨h1, h2, h3⟩ := h
  have qr : r ≤ q := by
    by_cases z : q < r
    · have := h2 q z; omega
    · omega
  have e2 : q = r := by
    by_cases z : r < q
    · have a := hs r q z hq
      have b := h3 r (Nat.le_refl _) (by omega)
      omega
    · omega
  subst e2
  refine ⟨rfl, by omega, fun p hp => ?_, fun p h4 h5 => ?_⟩
  · by_cases z : p < q
    · have := h2 p z; omega
    · have : p = q := by omega
      subst this; omega
  · have := hs q p (by omega) h5; omega
end
section
/-! SchemaTwins: the relation of the rows, and how it is kept -/
def tw_un (f : Nat → Nat) (k x : Nat) : Nat → Nat := fun j => if j = k then x else f j
theorem tw_un_s {f : Nat → Nat} {k x : Nat} : tw_un f k x k = x := if_pos rfl
theorem tw_un_n {f : Nat → Nat} {k x j : Nat} (h : j ≠ k) : tw_un f k x j = f j := if_neg h
theorem tw_unI (f : Nat → Nat) (k x : Nat) : upd (fun w => nI (f w)) k (nI x) = fun w => nI (tw_un f k x w) := by
  funext j
  by_cases e : j = k
  · subst e; rw [pk_us, tw_un_s]
  · rw [pk_un e, tw_un_n e]
/-- keys of the rows, the keys that are there, the rows' values on both sides -/
def tw_keys (n : Nat) (KY : Nat → Nat) (pr ky : Nat → Int32) : Prop :=
  n ≤ 12 ∧ (∀ r, r < n → ky r = nI (KY r) ∧ KY r < 100) ∧ (∀ q r, q < r → r < n → KY q < KY r) ∧ ∀ k, k < 100 → (pr k = 1 ∧ ∃ r, r < n ∧ KY r = k) ∨ (pr k = 0 ∧ ∀ r, r < n → KY r ≠ k)
def tw_vals (vs n : Nat) (W KY : Nat → Nat) (ce va : Nat → Int32) : Prop :=
  ∀ r, r < n → ∀ w, w < vs → ∀ c, c < W w → ce (KY r * 40 + w * 5 + c) = va (40 * r + 5 * w + c)
theorem tw_inj {n : Nat} {KY : Nat → Nat} (hs : ∀ q r, q < r → r < n → KY q < KY r) {q r : Nat} (hq : q < n) (hr : r < n) (e : KY q = KY r) : q = r := by
  by_cases h : q < r
  · have := hs q r h hr; omega
  · by_cases h2 : r < q
    · have := hs r q h2 hq; omega
    · omega
/-! insert -/
def tw_ki (KY : Nat → Nat) (a key : Nat) : Nat → Nat := fun r => if r < a then KY r else if r = a then key else KY (r - 1)
theorem tw_ki_l {KY : Nat → Nat} {a key r : Nat} (h : r < a) : tw_ki KY a key r = KY r := if_pos h
theorem tw_ki_e {KY : Nat → Nat} {a key : Nat} : tw_ki KY a key a = key := by unfold tw_ki; rw [if_neg (Nat.lt_irrefl _), if_pos rfl]
theorem tw_ki_g {KY : Nat → Nat} {a key r : Nat} (h : a ≤ r) : tw_ki KY a key (r + 1) = KY r := by
  unfold tw_ki; rw [if_neg (by omega), if_neg (by omega), Nat.add_sub_cancel]
theorem tw_keys_i {n a key : Nat} {KY : Nat → Nat} {pr ky ky' : Nat → Int32} (h : tw_keys n KY pr ky) (hn : n < 12) (hk : key < 100) (ha : a ≤ n) (h1 : ∀ r, r < a → KY r < key) (h2 : ∀ r, a ≤ r → r < n → key < KY r)
    (e1 : ∀ r, r < a → ky' r = ky r) (e2 : ky' a = nI key) (e3 : ∀ r, a ≤ r → r < n → ky' (r + 1) = ky r) : tw_keys (n + 1) (tw_ki KY a key) (upd pr key 1) ky' := by
  obtain ⟨g1, g2, g3, g4⟩ := h
  have cs : ∀ r, r < n + 1 → r < a ∨ r = a ∨ ∃ q, r = q + 1 ∧ a ≤ q ∧ q < n := by
    intro r hr
    by_cases z : r < a
    · exact Or.inl z
    · by_cases z2 : r = a
      · exact Or.inr (Or.inl z2)
      · exact Or.inr (Or.inr ⟨r - 1, by omega, by omega, by omega⟩)
  refine ⟨by omega, fun r hr => ?_, fun q r hq hr => ?_, fun k hk' => ?_⟩
  · rcases cs r hr with z | z | ⟨q, z, z1, z2⟩
    · rw [tw_ki_l z, e1 r z]; exact g2 r (by omega)
    · subst z; rw [tw_ki_e, e2]; exact ⟨rfl, hk⟩
    · subst z; rw [tw_ki_g z1, e3 q z1 z2]; exact g2 q z2
  · rcases cs r hr with z | z | ⟨p, z, z1, z2⟩
    · rw [tw_ki_l z, tw_ki_l (by omega)]; exact g3 q r hq (by omega)
    · subst z; rw [tw_ki_e, tw_ki_l hq]; exact h1 q hq
    · subst z; rw [tw_ki_g z1]
      rcases cs q (by omega) with y | y | ⟨p', y, y1, y2⟩
      · rw [tw_ki_l y]; exact g3 q p (by omega) z2
      · subst y; rw [tw_ki_e]; exact h2 p z1 z2
      · subst y; rw [tw_ki_g y1]; exact g3 p' p (by omega) z2
  · by_cases e : k = key
    · subst e; exact Or.inl ⟨pk_us, a, by omega, tw_ki_e⟩
    · rw [pk_un e]
      rcases g4 k hk' with ⟨b1, r, b2, b3⟩ | ⟨b1, b2⟩
      · refine Or.inl ⟨b1, ?_⟩
        by_cases z : r < a
        · exact ⟨r, by omega, by rw [tw_ki_l z]; exact b3⟩
        · exact ⟨r + 1, by omega, by rw [tw_ki_g (by omega)]; exact b3⟩
      · refine Or.inr ⟨b1, fun r hr => ?_⟩
        rcases cs r hr with z | z | ⟨q, z, z1, z2⟩
        · rw [tw_ki_l z]; exact b2 r (by omega)
        · subst z; rw [tw_ki_e]; exact fun q => e q.symm
        · subst z; rw [tw_ki_g z1]; exact b2 q z2
theorem tw_vals_i {vs n a key : Nat} {W KY : Nat → Nat} {ce va ce' va' : Nat → Int32} {B D : Nat} (hv : tw_vals vs n W KY ce va) (h8 : vs ≤ 8) (hW : ∀ w, w < vs → W w ≤ 5) (ha : a ≤ n) (hne : ∀ r, r < n → KY r ≠ key)
    (x1 : ∀ i, i < 40 → ce' (key * 40 + i) = ce (B + i)) (x2 : ∀ k, k ≠ key → k < 100 → ∀ i, i < 40 → ce' (k * 40 + i) = ce (k * 40 + i)) (hk : ∀ r, r < n → KY r < 100)
    (y1 : ∀ r, r < a → ∀ i, i < 40 → va' (40 * r + i) = va (40 * r + i)) (y2 : ∀ i, i < 40 → va' (40 * a + i) = va (D + i)) (y3 : ∀ r, a ≤ r → r < n → ∀ i, i < 40 → va' (40 * (r + 1) + i) = va (40 * r + i))
    (t : ∀ w, w < vs → ∀ c, c < W w → ce (B + w * 5 + c) = va (D + 5 * w + c)) : tw_vals vs (n + 1) W (tw_ki KY a key) ce' va' := by
  intro r hr w hw c hc
  have hc5 := hW w hw
  by_cases z : r < a
  · have := x2 (KY r) (hne r (by omega)) (hk r (by omega)) (w * 5 + c) (by omega)
    rw [tw_ki_l z, Nat.add_assoc, this, Nat.add_assoc, y1 r z (5 * w + c) (by omega), ← Nat.add_assoc, ← Nat.add_assoc]
    exact hv r (by omega) w hw c hc
  · by_cases z2 : r = a
    · subst z2
      rw [tw_ki_e, Nat.add_assoc, x1 (w * 5 + c) (by omega), Nat.add_assoc, y2 (5 * w + c) (by omega), ← Nat.add_assoc, ← Nat.add_assoc]
      exact t w hw c hc
    · obtain ⟨q, rfl⟩ : ∃ q, r = q + 1 := ⟨r - 1, by omega⟩
      have := x2 (KY q) (hne q (by omega)) (hk q (by omega)) (w * 5 + c) (by omega)
      rw [tw_ki_g (by omega), Nat.add_assoc, this, Nat.add_assoc, y3 q (by omega) (by omega) (5 * w + c) (by omega), ← Nat.add_assoc, ← Nat.add_assoc]
      exact hv q (by omega) w hw c hc
/-! delete -/
def tw_kd (KY : Nat → Nat) (a : Nat) : Nat → Nat := fun r => if r < a then KY r else KY (r + 1)
theorem tw_kd_l {KY : Nat → Nat} {a r : Nat} (h : r < a) : tw_kd KY a r = KY r := if_pos h
theorem tw_kd_g {KY : Nat → Nat} {a r : Nat} (h : a ≤ r) : tw_kd KY a r = KY (r + 1) := if_neg (by omega)
theorem tw_keys_d {n a : Nat} {KY : Nat → Nat} {pr ky ky' : Nat → Int32} (h : tw_keys (n + 1) KY pr ky) (ha : a ≤ n)
    (e1 : ∀ r, r < a → ky' r = ky r) (e3 : ∀ r, a ≤ r → r < n → ky' r = ky (r + 1)) : tw_keys n (tw_kd KY a) (upd pr (KY a) 0) ky' := by
  obtain ⟨g1, g2, g3, g4⟩ := h
  refine ⟨by omega, fun r hr => ?_, fun q r hq hr => ?_, fun k hk' => ?_⟩
  · by_cases z : r < a
    · rw [tw_kd_l z, e1 r z]; exact g2 r (by omega)
    · rw [tw_kd_g (by omega), e3 r (by omega) hr]; exact g2 (r + 1) (by omega)
  · by_cases z : r < a
    · rw [tw_kd_l z, tw_kd_l (by omega)]; exact g3 q r hq (by omega)
    · rw [tw_kd_g (r := r) (by omega)]
      by_cases y : q < a
      · rw [tw_kd_l y]; exact g3 q (r + 1) (by omega) (by omega)
      · rw [tw_kd_g (by omega)]; exact g3 (q + 1) (r + 1) (by omega) (by omega)
  · by_cases e : k = KY a
    · subst e
      refine Or.inr ⟨pk_us, fun r hr q => ?_⟩
      by_cases z : r < a
      · rw [tw_kd_l z] at q; have := tw_inj g3 (by omega) (by omega) q; omega
      · rw [tw_kd_g (by omega)] at q; have := tw_inj g3 (by omega) (by omega) q; omega
    · rw [pk_un e]
      rcases g4 k hk' with ⟨b1, r, b2, b3⟩ | ⟨b1, b2⟩
      · refine Or.inl ⟨b1, ?_⟩
        by_cases z : r < a
        · exact ⟨r, by omega, by rw [tw_kd_l z]; exact b3⟩
        · have : r ≠ a := by
            intro q; subst q; exact e b3.symm
          obtain ⟨p, rfl⟩ : ∃ p, r = p + 1 := ⟨r - 1, by omega⟩
          exact ⟨p, by omega, by rw [tw_kd_g (by omega)]; exact b3⟩
      · refine Or.inr ⟨b1, fun r hr => ?_⟩
        by_cases z : r < a
        · rw [tw_kd_l z]; exact b2 r (by omega)
        · rw [tw_kd_g (by omega)]; exact b2 (r + 1) (by omega)
theorem tw_vals_d {vs n a : Nat} {W KY : Nat → Nat} {ce va va' : Nat → Int32} (hv : tw_vals vs (n + 1) W KY ce va) (h8 : vs ≤ 8) (hW : ∀ w, w < vs → W w ≤ 5) (ha : a ≤ n)
    (y1 : ∀ r, r < a → ∀ i, i < 40 → va' (40 * r + i) = va (40 * r + i)) (y3 : ∀ r, a ≤ r → r < n → ∀ i, i < 40 → va' (40 * r + i) = va (40 * (r + 1) + i)) : tw_vals vs n W (tw_kd KY a) ce va' := by
  intro r hr w hw c hc
  have hc5 := hW w hw
  by_cases z : r < a
  · have := hv r (by omega) w hw c hc
    rw [tw_kd_l z, this, Nat.add_assoc, y1 r z (5 * w + c) (by omega)]
  · have := hv (r + 1) (by omega) w hw c hc
    rw [tw_kd_g (by omega), this, Nat.add_assoc (40 * r), y3 r (by omega) hr (5 * w + c) (by omega), Nat.add_assoc]
/-! update -/
theorem tw_vals_u {vs n a : Nat} {W KY : Nat → Nat} {ce va ce' va' : Nat → Int32} {B D : Nat} (hv : tw_vals vs n W KY ce va) (h8 : vs ≤ 8) (hW : ∀ w, w < vs → W w ≤ 5) (hs : ∀ q r, q < r → r < n → KY q < KY r) (hk : ∀ r, r < n → KY r < 100) (ha : a < n)
    (x1 : ∀ i, i < 40 → ce' (KY a * 40 + i) = ce (B + i)) (x2 : ∀ k, k ≠ KY a → k < 100 → ∀ i, i < 40 → ce' (k * 40 + i) = ce (k * 40 + i))
    (y1 : ∀ r, r ≠ a → r < 12 → ∀ i, i < 40 → va' (40 * r + i) = va (40 * r + i)) (y2 : ∀ i, i < 40 → va' (40 * a + i) = va (D + i)) (hn : n ≤ 12)
    (t : ∀ w, w < vs → ∀ c, c < W w → ce (B + w * 5 + c) = va (D + 5 * w + c)) : tw_vals vs n W KY ce' va' := by
  intro r hr w hw c hc
  have hc5 := hW w hw
  by_cases z : r = a
  · subst z
    rw [Nat.add_assoc, x1 (w * 5 + c) (by omega), Nat.add_assoc, y2 (5 * w + c) (by omega), ← Nat.add_assoc, ← Nat.add_assoc]
    exact t w hw c hc
  · have := x2 (KY r) (fun q => z (tw_inj hs hr ha q)) (hk r hr) (w * 5 + c) (by omega)
    rw [Nat.add_assoc, this, Nat.add_assoc, y1 r z (by omega) (5 * w + c) (by omega), ← Nat.add_assoc, ← Nat.add_assoc]
    exact hv r hr w hw c hc
/-! edit -/
theorem tw_wf_e {vs v k x z wc : Nat} {P K A Z W : Nat → Nat} (h : tw_wf vs P K A Z W) (h8 : vs < 8) (hv : v < vs) (ho : tw_ok k x z (W v) wc) : tw_wf (vs + 1) (tw_un P vs v) (tw_un K vs k) (tw_un A vs x) (tw_un Z vs z) (tw_un W vs wc) := by
  obtain ⟨g1, g2, g3, g4⟩ := h
  refine ⟨by omega, by omega, fun w hw => ?_, fun w w0 w1 => ?_⟩
  · by_cases e : w = vs
    · subst e; rw [tw_un_s]; exact ho.2.2.1
    · rw [tw_un_n e]; exact g3 w (by omega)
  · by_cases e : w = vs
    · subst e
      rw [tw_un_s, tw_un_s, tw_un_s, tw_un_s, tw_un_s, tw_un_n (by omega)]
      exact ⟨hv, ho⟩
    · have := g4 w w0 (by omega)
      rw [tw_un_n e, tw_un_n e, tw_un_n e, tw_un_n e, tw_un_n e, tw_un_n (by omega)]
      exact this
theorem tw_wf_r {vs : Nat} {P K A Z W : Nat → Nat} (h : tw_wf (vs + 1) P K A Z W) (h1 : 1 ≤ vs) : tw_wf vs P K A Z W := by
  obtain ⟨g1, g2, g3, g4⟩ := h
  exact ⟨h1, by omega, fun w hw => g3 w (by omega), fun w w0 w1 => g4 w w0 (by omega)⟩
theorem tw_vals_e {vs v n k x z wc : Nat} {y : Int32} {W KY : Nat → Nat} {ce va ce' va' : Nat → Int32} (hv : tw_vals vs n W KY ce va) (h8 : vs < 8) (hv0 : v < vs) (hW : ∀ w, w < vs → W w ≤ 5) (ho : tw_ok k x z (W v) wc) 
    (x1 : ∀ r, r < n → ∀ c, c < wc → ce' (KY r * 40 + vs * 5 + c) = tw_td k x z y wc true (fun c => ce (KY r * 40 + v * 5 + c)) (fun c => ce (KY r * 40 + vs * 5 + c)) c)
    (x2 : ∀ r, r < n → ∀ w, w < vs → ∀ c, c < 5 → ce' (KY r * 40 + w * 5 + c) = ce (KY r * 40 + w * 5 + c))
    (y1 : ∀ r, r < n → ∀ c, c < wc → va' (40 * r + 5 * vs + c) = tw_td k x z y wc true (fun c => va (40 * r + 5 * v + c)) (fun c => va (40 * r + 5 * vs + c)) c)
    (y2 : ∀ r, r < n → ∀ w, w < vs → ∀ c, c < 5 → va' (40 * r + 5 * w + c) = va (40 * r + 5 * w + c)) : tw_vals (vs + 1) n (tw_un W vs wc) KY ce' va' := by
  intro r hr w hw c hc
  by_cases e : w = vs
  · subst e
    rw [tw_un_s] at hc
    rw [x1 r hr c hc, y1 r hr c hc]
    exact tw_td_c ho (fun c hc => hv r hr v hv0 c hc) (fun q => absurd q (by decide)) c hc
  · rw [tw_un_n e] at hc
    have := hW w (by omega)
    rw [x2 r hr w (by omega) c (by omega), y2 r hr w (by omega) c (by omega)]
    exact hv r hr w (by omega) c hc
end
section
/-! SchemaTwins: loops that write a stretch of an array, and what a move between a version and its parent leaves -/
/-- the first i cells from lo hold g, all others are as they were -/
def tw_I (ce : Nat → Int32) (lo : Nat) (g : Nat → Int32) (i : Nat) (f : Nat → Int32) : Prop :=
  (∀ c, c < i → f (lo + c) = g c) ∧ ∀ j, j < lo ∨ lo + i ≤ j → f j = ce j
theorem tw_I_0 {ce : Nat → Int32} {lo : Nat} {g : Nat → Int32} : tw_I ce lo g 0 ce := ⟨fun c hc => absurd hc (Nat.not_lt_zero _), fun _ _ => rfl⟩
theorem tw_I_s {ce g f : Nat → Int32} {lo i : Nat} {x : Int32} (h : tw_I ce lo g i f) (e : x = g i) : tw_I ce lo g (i + 1) (upd f (lo + i) x) := by
  refine ⟨fun c hc => ?_, fun j hj => ?_⟩
  · by_cases z : c = i
    · subst z; rw [pk_us]; exact e
    · rw [pk_un (by omega)]; exact h.1 c (by omega)
  · rw [pk_un (by omega)]; exact h.2 j (by omega)
theorem tw_I_k {ce g f : Nat → Int32} {lo i : Nat} (h : tw_I ce lo g i f) (e : ce (lo + i) = g i) : tw_I ce lo g (i + 1) f := by
  refine ⟨fun c hc => ?_, fun j hj => h.2 j (by omega)⟩
  by_cases z : c = i
  · subst z; rw [h.2 _ (by omega)]; exact e
  · exact h.1 c (by omega)
/-- the n cells from lo hold g, and nothing outside lo .. lo + 4 has changed -/
def tw_G (ce f : Nat → Int32) (lo n : Nat) (g : Nat → Int32) : Prop :=
  (∀ c, c < n → f (lo + c) = g c) ∧ ∀ j, j < lo ∨ lo + 5 ≤ j → f j = ce j
theorem tw_I_G {ce g g' f : Nat → Int32} {lo n : Nat} (h : tw_I ce lo g n f) (hn : n ≤ 5) (e : ∀ c, c < n → g c = g' c) : tw_G ce f lo n g' :=
  ⟨fun c hc => (h.1 c hc).trans (e c hc), fun j hj => h.2 j (by omega)⟩
theorem tw_G_u {ce g g' f : Nat → Int32} {lo n x : Nat} {y : Int32} (h : tw_G ce f lo n g) (hx : x < 5) (e1 : x < n → y = g' x) (e2 : ∀ c, c < n → c ≠ x → g c = g' c) : tw_G ce (upd f (lo + x) y) lo n g' := by
  refine ⟨fun c hc => ?_, fun j hj => ?_⟩
  · by_cases z : c = x
    · subst z; rw [pk_us]; exact e1 hc
    · rw [pk_un (by omega)]; exact (h.1 c hc).trans (e2 c hc z)
  · rw [pk_un (by omega)]; exact h.2 j hj
/-- where the parent has the child's column c -/
def tw_th (k x z c : Nat) : Nat :=
  match k with
  | 1 => if c < x then c else c + 1
  | 4 => if c = x then z else if c = z then x else c
  | _ => c
def tw_cm (k wc : Nat) : Nat := if k = 0 then wc - 1 else wc
theorem tw_th_lt {k x z wp wc c : Nat} (h : tw_ok k x z wp wc) (hc : c < tw_cm k wc) : tw_th k x z c < wp := by
  obtain ⟨h1, h2, h3, h4, h5, h6, h7, h8, h9, _⟩ := h
  rcases (by omega : k = 0 ∨ k = 1 ∨ k = 2 ∨ k = 3 ∨ k = 4 ∨ k = 5) with e | e | e | e | e | e <;> subst e
  · have : c < wc - 1 := hc
    show c < wp; omega
  · have : c < wc := hc
    show (if c < x then c else c + 1) < wp
    split <;> omega
  · have : c < wc := hc
    show c < wp; omega
  · have : c < wc := hc
    show c < wp; omega
  · have : c < wc := hc
    show (if c = x then z else if c = z then x else c) < wp
    split
    · omega
    · split <;> omega
  · have : c < wc := hc
    show c < wp; omega
theorem tw_th_inj {k x z c d : Nat} (h : tw_th k x z c = tw_th k x z d) : c = d := by
  by_cases k1 : k = 1
  · subst k1
    have h' : (if c < x then c else c + 1) = (if d < x then d else d + 1) := h
    split at h' <;> split at h' <;> omega
  · by_cases k4 : k = 4
    · subst k4
      have h' : (if c = x then z else if c = z then x else c) = (if d = x then z else if d = z then x else d) := h
      repeat' split at h'
      all_goals omega
    · have e : ∀ q, tw_th k x z q = q := by
        intro q; unfold tw_th; split
        · exact absurd rfl k1
        · exact absurd rfl k4
        · rfl
      rw [e, e] at h; exact h
/-! the child of its parent, component -/
section
variable {k x z wp wc lo hi : Nat} {y : Int32} {b : Bool} {ce f : Nat → Int32}
theorem tw_fp_n (ho : tw_ok k x z wp wc) (h : tw_I ce lo (fun c => ce (hi + tw_th k x z c)) (tw_cm k wc) f) (k2 : k ≠ 2) (k5 : k ≠ 5) (k0 : k = 0 → b = false) : tw_G ce f lo wc (tw_td k x z y wc b (fun c => ce (hi + c)) (fun c => ce (lo + c))) := by
  obtain ⟨h1, h2, h3, h4, h5, h6, h7, h8, h9, _⟩ := ho
  rcases (by omega : k = 0 ∨ k = 1 ∨ k = 3 ∨ k = 4) with e | e | e | e <;> subst e
  · have h' : tw_I ce lo (fun c => ce (hi + c)) (wc - 1) f := h
    refine ⟨fun c hc => ?_, fun j hj => h'.2 j (by omega)⟩
    show f (lo + c) = if c + 1 = wc then (if b = true then y else ce (lo + c)) else ce (hi + c)
    by_cases e : c + 1 = wc
    · rw [if_pos e, k0 rfl, if_neg (by decide)]; exact h'.2 _ (by omega)
    · rw [if_neg e]; exact h'.1 c (by omega)
  · have h' : tw_I ce lo (fun c => ce (hi + if c < x then c else c + 1)) wc f := h
    refine tw_I_G h' (by omega) fun c hc => ?_
    show ce (hi + if c < x then c else c + 1) = if c < x then ce (hi + c) else ce (hi + (c + 1))
    split <;> rfl
  · exact tw_I_G h (by omega) fun c hc => rfl
  · have h' : tw_I ce lo (fun c => ce (hi + if c = x then z else if c = z then x else c)) wc f := h
    refine tw_I_G h' (by omega) fun c hc => ?_
    show ce (hi + if c = x then z else if c = z then x else c) = if c = x then ce (hi + z) else if c = z then ce (hi + x) else ce (hi + c)
    split
    · rfl
    · split <;> rfl
theorem tw_fp_2 (ho : tw_ok 2 x z wp wc) (h : tw_I ce lo (fun c => ce (hi + tw_th 2 x z c)) (tw_cm 2 wc) f) : tw_G ce (upd f (lo + x) (f (lo + x) + y)) lo wc (tw_td 2 x z y wc b (fun c => ce (hi + c)) (fun c => ce (lo + c))) := by
  obtain ⟨h1, h2, h3, h4, h5, h6, h7, h8, h9, _⟩ := ho
  have a := h4 (by omega)
  have w := h9 (by omega)
  have h' : tw_I ce lo (fun c => ce (hi + c)) wc f := h
  refine tw_G_u (tw_I_G h' (by omega) fun c hc => rfl) (by omega) (fun hx => ?_) (fun c hc hne => ?_)
  · show f (lo + x) + y = if x = x then ce (hi + x) + y else ce (hi + x)
    rw [if_pos rfl, h'.1 x hx]
  · show ce (hi + c) = if c = x then ce (hi + x) + y else ce (hi + c)
    rw [if_neg hne]
theorem tw_fp_5 (ho : tw_ok 5 x z wp wc) (h : tw_I ce lo (fun c => ce (hi + tw_th 5 x z c)) (tw_cm 5 wc) f) : tw_G ce (upd f (lo + x) (f (lo + x) + f (lo + z))) lo wc (tw_td 5 x z y wc b (fun c => ce (hi + c)) (fun c => ce (lo + c))) := by
  obtain ⟨h1, h2, h3, h4, h5, h6, h7, h8, h9, _⟩ := ho
  have a := h4 (by omega)
  have a' := h5 (by omega)
  have w := h9 (by omega)
  have h' : tw_I ce lo (fun c => ce (hi + c)) wc f := h
  refine tw_G_u (tw_I_G h' (by omega) fun c hc => rfl) (by omega) (fun hx => ?_) (fun c hc hne => ?_)
  · show f (lo + x) + f (lo + z) = if x = x then ce (hi + x) + ce (hi + z) else ce (hi + x)
    rw [if_pos rfl, h'.1 x hx, h'.1 z (by omega)]
  · show ce (hi + c) = if c = x then ce (hi + x) + ce (hi + z) else ce (hi + c)
    rw [if_neg hne]
theorem tw_fp_0 (ho : tw_ok 0 x z wp wc) (h : tw_I ce lo (fun c => ce (hi + tw_th 0 x z c)) (tw_cm 0 wc) f) : tw_G ce (upd f (lo + tw_cm 0 wc) y) lo wc (tw_td 0 x z y wc true (fun c => ce (hi + c)) (fun c => ce (lo + c))) := by
  obtain ⟨h1, h2, h3, h4, h5, h6, h7, h8, h9, _⟩ := ho
  have h' : tw_I ce lo (fun c => ce (hi + c)) (wc - 1) f := h
  show tw_G ce (upd f (lo + (wc - 1)) y) lo wc _
  refine ⟨fun c hc => ?_, fun j hj => ?_⟩
  · show upd f (lo + (wc - 1)) y (lo + c) = if c + 1 = wc then (if true = true then y else ce (lo + c)) else ce (hi + c)
    by_cases e : c + 1 = wc
    · rw [if_pos e, if_pos rfl, show wc - 1 = c from by omega, pk_us]
    · rw [if_neg e, pk_un (by omega)]; exact h'.1 c (by omega)
  · rw [pk_un (by omega)]; exact h'.2 j (by omega)
/-! the parent of its child, component -/
def tw_J (ce : Nat → Int32) (lo hi k x z i : Nat) (f : Nat → Int32) : Prop :=
  (∀ c, c < i → f (hi + tw_th k x z c) = ce (lo + c)) ∧ ∀ j, (∀ c, c < i → j ≠ hi + tw_th k x z c) → f j = ce j
theorem tw_J_0 : tw_J ce lo hi k x z 0 ce := ⟨fun c hc => absurd hc (Nat.not_lt_zero _), fun _ _ => rfl⟩
theorem tw_J_s {i : Nat} {q : Int32} (h : tw_J ce lo hi k x z i f) (e : q = ce (lo + i)) : tw_J ce lo hi k x z (i + 1) (upd f (hi + tw_th k x z i) q) := by
  refine ⟨fun c hc => ?_, fun j hj => ?_⟩
  · by_cases d : c = i
    · subst d; rw [pk_us]; exact e
    · have : tw_th k x z c ≠ tw_th k x z i := fun q => d (tw_th_inj q)
      rw [pk_un (by omega)]; exact h.1 c (by omega)
  · rw [pk_un (hj i (by omega))]; exact h.2 j fun c hc => hj c (by omega)
theorem tw_J_f (ho : tw_ok k x z wp wc) {i : Nat} (hi' : i ≤ tw_cm k wc) (h : tw_J ce lo hi k x z i f) (j : Nat) (hj : j < hi ∨ hi + 5 ≤ j) : f j = ce j := by
  refine h.2 j fun c hc => ?_
  have a := tw_th_lt ho (c := c) (by omega)
  have w := ho.2.1
  omega
theorem tw_fc_n (ho : tw_ok k x z wp wc) (h : tw_J ce lo hi k x z (tw_cm k wc) f) (k2 : k ≠ 2) (k5 : k ≠ 5) (k1 : k = 1 → b = false) : tw_G ce f hi wp (tw_tp k x z y b (fun c => ce (lo + c)) (fun c => ce (hi + c))) := by
  have fr := tw_J_f ho (Nat.le_refl _) h
  obtain ⟨h1, h2, h3, h4, h5, h6, h7, h8, h9, _⟩ := ho
  refine ⟨fun c hc => ?_, fr⟩
  rcases (by omega : k = 0 ∨ k = 1 ∨ k = 3 ∨ k = 4) with e | e | e | e <;> subst e
  · exact h.1 c (show c < wc - 1 by omega)
  · show f (hi + c) = if c = x then (if b = true then y else ce (hi + c)) else if c < x then ce (lo + c) else ce (lo + (c - 1))
    by_cases e : c = x
    · rw [if_pos e, k1 rfl, if_neg (by decide)]
      refine h.2 _ fun d hd q => ?_
      have q' : hi + c = hi + if d < x then d else d + 1 := q
      split at q' <;> omega
    · rw [if_neg e]
      by_cases g : c < x
      · have := h.1 c (show c < wc by omega)
        have t : tw_th 1 x z c = c := if_pos g
        rw [t] at this; rw [if_pos g]; exact this
      · have := h.1 (c - 1) (show c - 1 < wc by omega)
        have t : tw_th 1 x z (c - 1) = c := by
          show (if c - 1 < x then c - 1 else c - 1 + 1) = c
          rw [if_neg (by omega)]; omega
        rw [t] at this; rw [if_neg g]; exact this
  · exact h.1 c (show c < wc by omega)
  · show f (hi + c) = if c = x then ce (lo + z) else if c = z then ce (lo + x) else ce (lo + c)
    have a := h4 (by omega)
    have a' := h5 (by omega)
    have w := h9 (by omega)
    by_cases e : c = x
    · rw [if_pos e]
      have := h.1 z (show z < wc by omega)
      have t : tw_th 4 x z z = c := by
        show (if z = x then z else if z = z then x else z) = c
        split
        · omega
        · rw [if_pos rfl]; omega
      rw [t] at this; exact this
    · rw [if_neg e]
      by_cases g : c = z
      · rw [if_pos g]
        have := h.1 x (show x < wc by omega)
        have t : tw_th 4 x z x = c := by
          show (if x = x then z else if x = z then x else x) = c
          rw [if_pos rfl]; omega
        rw [t] at this; exact this
      · rw [if_neg g]
        have := h.1 c (show c < wc by omega)
        have t : tw_th 4 x z c = c := by
          show (if c = x then z else if c = z then x else c) = c
          rw [if_neg e, if_neg g]
        rw [t] at this; exact this
theorem tw_fc_2 (ho : tw_ok 2 x z wp wc) (h : tw_J ce lo hi 2 x z (tw_cm 2 wc) f) : tw_G ce (upd f (hi + x) (f (hi + x) - y)) hi wp (tw_tp 2 x z y b (fun c => ce (lo + c)) (fun c => ce (hi + c))) := by
  have fr := tw_J_f ho (Nat.le_refl _) h
  obtain ⟨h1, h2, h3, h4, h5, h6, h7, h8, h9, _⟩ := ho
  have a := h4 (by omega)
  have w := h9 (by omega)
  have v : ∀ c, c < wp → f (hi + c) = ce (lo + c) := fun c hc => h.1 c (show c < wc by omega)
  refine tw_G_u (g := fun c => ce (lo + c)) ⟨v, fr⟩ (by omega) (fun hx => ?_) (fun c hc hne => ?_)
  · show f (hi + x) - y = if x = x then ce (lo + x) - y else ce (lo + x)
    rw [if_pos rfl, v x hx]
  · show ce (lo + c) = if c = x then ce (lo + x) - y else ce (lo + c)
    rw [if_neg hne]
theorem tw_fc_5 (ho : tw_ok 5 x z wp wc) (h : tw_J ce lo hi 5 x z (tw_cm 5 wc) f) : tw_G ce (upd f (hi + x) (f (hi + x) - f (hi + z))) hi wp (tw_tp 5 x z y b (fun c => ce (lo + c)) (fun c => ce (hi + c))) := by
  have fr := tw_J_f ho (Nat.le_refl _) h
  obtain ⟨h1, h2, h3, h4, h5, h6, h7, h8, h9, _⟩ := ho
  have a := h4 (by omega)
  have a' := h5 (by omega)
  have w := h9 (by omega)
  have v : ∀ c, c < wp → f (hi + c) = ce (lo + c) := fun c hc => h.1 c (show c < wc by omega)
  refine tw_G_u (g := fun c => ce (lo + c)) ⟨v, fr⟩ (by omega) (fun hx => ?_) (fun c hc hne => ?_)
  · show f (hi + x) - f (hi + z) = if x = x then ce (lo + x) - ce (lo + z) else ce (lo + x)
    rw [if_pos rfl, v x hx, v z (by omega)]
  · show ce (lo + c) = if c = x then ce (lo + x) - ce (lo + z) else ce (lo + c)
    rw [if_neg hne]
theorem tw_fc_1 (ho : tw_ok 1 x z wp wc) (h : tw_J ce lo hi 1 x z (tw_cm 1 wc) f) : tw_G ce (upd f (hi + x) y) hi wp (tw_tp 1 x z y true (fun c => ce (lo + c)) (fun c => ce (hi + c))) := by
  have g := tw_fc_n (b := false) (y := y) ho h (by decide) (by decide) (fun _ => rfl)
  obtain ⟨h1, h2, h3, h4, h5, h6, h7, h8, h9, _⟩ := ho
  have a := h4 (by omega)
  refine tw_G_u g (by omega) (fun hx => ?_) (fun c hc hne => ?_)
  · show y = if x = x then (if true = true then y else ce (hi + x)) else if x < x then ce (lo + x) else ce (lo + (x - 1))
    rw [if_pos rfl, if_pos rfl]
  · show (if c = x then (if false = true then y else ce (hi + c)) else if c < x then ce (lo + c) else ce (lo + (c - 1))) = if c = x then (if true = true then y else ce (hi + c)) else if c < x then ce (lo + c) else ce (lo + (c - 1))
    rw [if_neg hne, if_neg hne]
theorem tw_fp_2k (e : k = 2) (ho : tw_ok k x z wp wc) (h : tw_I ce lo (fun c => ce (hi + tw_th k x z c)) (tw_cm k wc) f) : tw_G ce (upd f (lo + x) (f (lo + x) + y)) lo wc (tw_td k x z y wc b (fun c => ce (hi + c)) (fun c => ce (lo + c))) := by
  subst e; exact tw_fp_2 ho h
theorem tw_fp_5k (e : k = 5) (ho : tw_ok k x z wp wc) (h : tw_I ce lo (fun c => ce (hi + tw_th k x z c)) (tw_cm k wc) f) : tw_G ce (upd f (lo + x) (f (lo + x) + f (lo + z))) lo wc (tw_td k x z y wc b (fun c => ce (hi + c)) (fun c => ce (lo + c))) := by
  subst e; exact tw_fp_5 ho h
theorem tw_fp_0k (e : k = 0) (ho : tw_ok k x z wp wc) (h : tw_I ce lo (fun c => ce (hi + tw_th k x z c)) (tw_cm k wc) f) : tw_G ce (upd f (lo + tw_cm k wc) y) lo wc (tw_td k x z y wc true (fun c => ce (hi + c)) (fun c => ce (lo + c))) := by
  subst e; exact tw_fp_0 ho h
theorem tw_fc_2k (e : k = 2) (ho : tw_ok k x z wp wc) (h : tw_J ce lo hi k x z (tw_cm k wc) f) : tw_G ce (upd f (hi + x) (f (hi + x) - y)) hi wp (tw_tp k x z y b (fun c => ce (lo + c)) (fun c => ce (hi + c))) := by
  subst e; exact tw_fc_2 ho h
theorem tw_fc_5k (e : k = 5) (ho : tw_ok k x z wp wc) (h : tw_J ce lo hi k x z (tw_cm k wc) f) : tw_G ce (upd f (hi + x) (f (hi + x) - f (hi + z))) hi wp (tw_tp k x z y b (fun c => ce (lo + c)) (fun c => ce (hi + c))) := by
  subst e; exact tw_fc_5 ho h
theorem tw_fc_1k (e : k = 1) (ho : tw_ok k x z wp wc) (h : tw_J ce lo hi k x z (tw_cm k wc) f) : tw_G ce (upd f (hi + x) y) hi wp (tw_tp k x z y true (fun c => ce (lo + c)) (fun c => ce (hi + c))) := by
  subst e; exact tw_fc_1 ho h
end
end
section
/-! SchemaTwins: the reference's two moves: t the target's first cell, s the source's -/
def tw_yd (k x wc : Nat) (y : Int32) (b : Bool) (ce : Nat → Int32) (t s c : Nat) : Int32 :=
  if k = 0 ∧ c + 1 = wc then (if b = true then y else ce (t + c)) else ce (s + if k = 1 ∧ x ≤ c then c + 1 else c)
def tw_yu (k x : Nat) (y : Int32) (b : Bool) (ce : Nat → Int32) (t s c : Nat) : Int32 :=
  if k = 1 ∧ c = x then (if b = true then y else ce (t + c)) else ce (s + if k = 1 ∧ x < c then c - 1 else c)
section
variable {k x z wp wc t s : Nat} {y : Int32} {b : Bool} {ce f : Nat → Int32}
theorem tw_yd_2 (h : tw_I ce t (tw_yd k x wc y b ce t s) wc f) (hw : wc ≤ 5) (k2 : 2 ≤ k) : tw_G ce f t wc (fun c => ce (s + c)) := by
  refine tw_I_G h hw fun c hc => ?_
  unfold tw_yd
  rw [if_neg (by omega), if_neg (by omega)]
theorem tw_yu_2 (h : tw_I ce t (tw_yu k x y b ce t s) wp f) (hw : wp ≤ 5) (k2 : k ≠ 1) : tw_G ce f t wp (fun c => ce (s + c)) := by
  refine tw_I_G h hw fun c hc => ?_
  unfold tw_yu
  rw [if_neg (by omega), if_neg (by omega)]
theorem tw_yd_n (ho : tw_ok k x z wp wc) (h : tw_I ce t (tw_yd k x wc y b ce t s) wc f) (k2 : k ≠ 2) (k4 : k ≠ 4) (k5 : k ≠ 5) : tw_G ce f t wc (tw_td k x z y wc b (fun c => ce (s + c)) (fun c => ce (t + c))) := by
  obtain ⟨h1, h2, h3, h4, h5, h6, h7, h8, h9, _⟩ := ho
  refine tw_I_G h (by omega) fun c hc => ?_
  rcases (by omega : k = 0 ∨ k = 1 ∨ k = 3) with e | e | e <;> subst e
  · show tw_yd 0 x wc y b ce t s c = if c + 1 = wc then (if b = true then y else ce (t + c)) else ce (s + c)
    unfold tw_yd
    by_cases e : c + 1 = wc
    · rw [if_pos ⟨rfl, e⟩, if_pos e]
    · rw [if_neg (by omega), if_neg e, if_neg (by omega)]
  · show tw_yd 1 x wc y b ce t s c = if c < x then ce (s + c) else ce (s + (c + 1))
    unfold tw_yd
    rw [if_neg (by omega)]
    by_cases e : c < x
    · rw [if_neg (by omega), if_pos e]
    · rw [if_pos (by omega), if_neg e]
  · show tw_yd 3 x wc y b ce t s c = ce (s + c)
    unfold tw_yd
    rw [if_neg (by omega), if_neg (by omega)]
theorem tw_yd_s (ho : tw_ok 2 x z wp wc) (hd : s + 5 ≤ t ∨ t + 5 ≤ s) (h : tw_I ce t (tw_yd 2 x wc y b ce t s) wc f) : tw_G ce (upd f (t + x) (f (s + x) + y)) t wc (tw_td 2 x z y wc b (fun c => ce (s + c)) (fun c => ce (t + c))) := by
  obtain ⟨h1, h2, h3, h4, h5, h6, h7, h8, h9, _⟩ := ho
  have a := h4 (by omega)
  have g := tw_yd_2 h (by omega) (by omega)
  refine tw_G_u g (by omega) (fun hx => ?_) (fun c hc hne => ?_)
  · show f (s + x) + y = if x = x then ce (s + x) + y else ce (s + x)
    rw [if_pos rfl, g.2 _ (by omega)]
  · show ce (s + c) = if c = x then ce (s + x) + y else ce (s + c)
    rw [if_neg hne]
theorem tw_yd_5 (ho : tw_ok 5 x z wp wc) (hd : s + 5 ≤ t ∨ t + 5 ≤ s) (h : tw_I ce t (tw_yd 5 x wc y b ce t s) wc f) : tw_G ce (upd f (t + x) (f (s + x) + f (s + z))) t wc (tw_td 5 x z y wc b (fun c => ce (s + c)) (fun c => ce (t + c))) := by
  obtain ⟨h1, h2, h3, h4, h5, h6, h7, h8, h9, _⟩ := ho
  have a := h4 (by omega)
  have a' := h5 (by omega)
  have g := tw_yd_2 h (by omega) (by omega)
  refine tw_G_u g (by omega) (fun hx => ?_) (fun c hc hne => ?_)
  · show f (s + x) + f (s + z) = if x = x then ce (s + x) + ce (s + z) else ce (s + x)
    rw [if_pos rfl, g.2 _ (by omega), g.2 _ (by omega)]
  · show ce (s + c) = if c = x then ce (s + x) + ce (s + z) else ce (s + c)
    rw [if_neg hne]
theorem tw_sw (hx : x < 5) (hz : z < 5) (hd : s + 5 ≤ t ∨ t + 5 ≤ s) {n : Nat} (g : tw_G ce f t n (fun c => ce (s + c))) : tw_G ce (upd (upd f (t + x) (f (s + z))) (t + z) (upd f (t + x) (f (s + z)) (s + x))) t n (fun c => if c = x then ce (s + z) else if c = z then ce (s + x) else ce (s + c)) := by
  rw [pk_un (show s + x ≠ t + x by omega), g.2 (s + z) (by omega), g.2 (s + x) (by omega)]
  have g1 : tw_G ce (upd f (t + x) (ce (s + z))) t n (fun c => if c = x then ce (s + z) else ce (s + c)) := by
    refine tw_G_u g hx (fun _ => (if_pos rfl).symm) (fun c hc hne => (if_neg hne).symm)
  refine tw_G_u g1 hz (fun _ => ?_) (fun c hc hne => ?_)
  · by_cases e : z = x
    · rw [if_pos e, e]
    · rw [if_neg e, if_pos rfl]
  · rw [if_neg hne]
theorem tw_yd_4 (ho : tw_ok 4 x z wp wc) (hd : s + 5 ≤ t ∨ t + 5 ≤ s) (h : tw_I ce t (tw_yd 4 x wc y b ce t s) wc f) : tw_G ce (upd (upd f (t + x) (f (s + z))) (t + z) (upd f (t + x) (f (s + z)) (s + x))) t wc (tw_td 4 x z y wc b (fun c => ce (s + c)) (fun c => ce (t + c))) := by
  obtain ⟨h1, h2, h3, h4, h5, h6, h7, h8, h9, _⟩ := ho
  have a := h4 (by omega)
  have a' := h5 (by omega)
  exact tw_sw (by omega) (by omega) hd (tw_yd_2 h (by omega) (by omega))
theorem tw_yu_n (ho : tw_ok k x z wp wc) (h : tw_I ce t (tw_yu k x y b ce t s) wp f) (k2 : k ≠ 2) (k4 : k ≠ 4) (k5 : k ≠ 5) : tw_G ce f t wp (tw_tp k x z y b (fun c => ce (s + c)) (fun c => ce (t + c))) := by
  obtain ⟨h1, h2, h3, h4, h5, h6, h7, h8, h9, _⟩ := ho
  refine tw_I_G h (by omega) fun c hc => ?_
  rcases (by omega : k = 0 ∨ k = 1 ∨ k = 3) with e | e | e <;> subst e
  · show tw_yu 0 x y b ce t s c = ce (s + c)
    unfold tw_yu
    rw [if_neg (by omega), if_neg (by omega)]
  · show tw_yu 1 x y b ce t s c = if c = x then (if b = true then y else ce (t + c)) else if c < x then ce (s + c) else ce (s + (c - 1))
    unfold tw_yu
    by_cases e : c = x
    · rw [if_pos ⟨rfl, e⟩, if_pos e]
    · rw [if_neg (by omega), if_neg e]
      by_cases g : c < x
      · rw [if_neg (by omega), if_pos g]
      · rw [if_pos (by omega), if_neg g]
  · show tw_yu 3 x y b ce t s c = ce (s + c)
    unfold tw_yu
    rw [if_neg (by omega), if_neg (by omega)]
theorem tw_yu_s (ho : tw_ok 2 x z wp wc) (hd : s + 5 ≤ t ∨ t + 5 ≤ s) (h : tw_I ce t (tw_yu 2 x y b ce t s) wp f) : tw_G ce (upd f (t + x) (f (s + x) - y)) t wp (tw_tp 2 x z y b (fun c => ce (s + c)) (fun c => ce (t + c))) := by
  obtain ⟨h1, h2, h3, h4, h5, h6, h7, h8, h9, _⟩ := ho
  have a := h4 (by omega)
  have g := tw_yu_2 h (by omega) (by omega)
  refine tw_G_u g (by omega) (fun hx => ?_) (fun c hc hne => ?_)
  · show f (s + x) - y = if x = x then ce (s + x) - y else ce (s + x)
    rw [if_pos rfl, g.2 _ (by omega)]
  · show ce (s + c) = if c = x then ce (s + x) - y else ce (s + c)
    rw [if_neg hne]
theorem tw_yu_5 (ho : tw_ok 5 x z wp wc) (hd : s + 5 ≤ t ∨ t + 5 ≤ s) (h : tw_I ce t (tw_yu 5 x y b ce t s) wp f) : tw_G ce (upd f (t + x) (f (s + x) - f (s + z))) t wp (tw_tp 5 x z y b (fun c => ce (s + c)) (fun c => ce (t + c))) := by
  obtain ⟨h1, h2, h3, h4, h5, h6, h7, h8, h9, _⟩ := ho
  have a := h4 (by omega)
  have a' := h5 (by omega)
  have g := tw_yu_2 h (by omega) (by omega)
  refine tw_G_u g (by omega) (fun hx => ?_) (fun c hc hne => ?_)
  · show f (s + x) - f (s + z) = if x = x then ce (s + x) - ce (s + z) else ce (s + x)
    rw [if_pos rfl, g.2 _ (by omega), g.2 _ (by omega)]
  · show ce (s + c) = if c = x then ce (s + x) - ce (s + z) else ce (s + c)
    rw [if_neg hne]
theorem tw_yu_4 (ho : tw_ok 4 x z wp wc) (hd : s + 5 ≤ t ∨ t + 5 ≤ s) (h : tw_I ce t (tw_yu 4 x y b ce t s) wp f) : tw_G ce (upd (upd f (t + x) (f (s + z))) (t + z) (upd f (t + x) (f (s + z)) (s + x))) t wp (tw_tp 4 x z y b (fun c => ce (s + c)) (fun c => ce (t + c))) := by
  obtain ⟨h1, h2, h3, h4, h5, h6, h7, h8, h9, _⟩ := ho
  have a := h4 (by omega)
  have a' := h5 (by omega)
  exact tw_sw (by omega) (by omega) hd (tw_yu_2 h (by omega) (by omega))
theorem tw_yd_sk (e : k = 2) (ho : tw_ok k x z wp wc) (hd : s + 5 ≤ t ∨ t + 5 ≤ s) (h : tw_I ce t (tw_yd k x wc y b ce t s) wc f) : tw_G ce (upd f (t + x) (f (s + x) + y)) t wc (tw_td k x z y wc b (fun c => ce (s + c)) (fun c => ce (t + c))) := by
  subst e; exact tw_yd_s ho hd h
theorem tw_yd_5k (e : k = 5) (ho : tw_ok k x z wp wc) (hd : s + 5 ≤ t ∨ t + 5 ≤ s) (h : tw_I ce t (tw_yd k x wc y b ce t s) wc f) : tw_G ce (upd f (t + x) (f (s + x) + f (s + z))) t wc (tw_td k x z y wc b (fun c => ce (s + c)) (fun c => ce (t + c))) := by
  subst e; exact tw_yd_5 ho hd h
theorem tw_yd_4k (e : k = 4) (ho : tw_ok k x z wp wc) (hd : s + 5 ≤ t ∨ t + 5 ≤ s) (h : tw_I ce t (tw_yd k x wc y b ce t s) wc f) : tw_G ce (upd (upd f (t + x) (f (s + z))) (t + z) (upd f (t + x) (f (s + z)) (s + x))) t wc (tw_td k x z y wc b (fun c => ce (s + c)) (fun c => ce (t + c))) := by
  subst e; exact tw_yd_4 ho hd h
theorem tw_yu_sk (e : k = 2) (ho : tw_ok k x z wp wc) (hd : s + 5 ≤ t ∨ t + 5 ≤ s) (h : tw_I ce t (tw_yu k x y b ce t s) wp f) : tw_G ce (upd f (t + x) (f (s + x) - y)) t wp (tw_tp k x z y b (fun c => ce (s + c)) (fun c => ce (t + c))) := by
  subst e; exact tw_yu_s ho hd h
theorem tw_yu_5k (e : k = 5) (ho : tw_ok k x z wp wc) (hd : s + 5 ≤ t ∨ t + 5 ≤ s) (h : tw_I ce t (tw_yu k x y b ce t s) wp f) : tw_G ce (upd f (t + x) (f (s + x) - f (s + z))) t wp (tw_tp k x z y b (fun c => ce (s + c)) (fun c => ce (t + c))) := by
  subst e; exact tw_yu_5 ho hd h
theorem tw_yu_4k (e : k = 4) (ho : tw_ok k x z wp wc) (hd : s + 5 ≤ t ∨ t + 5 ≤ s) (h : tw_I ce t (tw_yu k x y b ce t s) wp f) : tw_G ce (upd (upd f (t + x) (f (s + z))) (t + z) (upd f (t + x) (f (s + z)) (s + x))) t wp (tw_tp k x z y b (fun c => ce (s + c)) (fun c => ce (t + c))) := by
  subst e; exact tw_yu_4 ho hd h
end
end
section
/-! SchemaTwins: how the component spreads a row: up to version 0, then down to all others -/
/-- a row's value in version w, column c, component and reference -/
def tw_V (B : Nat) (a : Nat → Int32) (w c : Nat) : Int32 := a (B + w * 5 + c)
def tw_Y (D : Nat) (a : Nat → Int32) (w c : Nat) : Int32 := a (D + 5 * w + c)
def tw_up (vs v : Nat) (P K A Z W : Nat → Nat) (num : Nat → Int32) (b : Bool) (B : Nat) (ce : Nat → Int32) (h : Nat) (rc f : Nat → Int32) : Prop :=
  h ≤ v ∧ rc h = 1 ∧ rc v = 1 ∧ (∀ w, w < vs → rc w = 0 ∨ rc w = 1) ∧ (∀ w, w < vs → rc w = 1 → h ≤ w ∧ w ≤ v) ∧
  (∀ w, w < vs → rc w = 1 → w ≠ h → rc (P w) = 1 ∧ ∀ c, c < W (P w) → tw_V B f (P w) c = tw_tp (K w) (A w) (Z w) (num w) b (tw_V B f w) (tw_V B ce (P w)) c) ∧
  (∀ w w', w < vs → w' < vs → rc w = 1 → rc w' = 1 → w ≠ h → w' ≠ h → P w = P w' → w = w') ∧
  (∀ c, c < W v → tw_V B f v c = tw_V B ce v c) ∧ (∀ w, w < vs → rc w = 0 → ∀ c, c < 5 → tw_V B f w c = tw_V B ce w c) ∧ (∀ j, j < B ∨ B + 40 ≤ j → f j = ce j)
theorem tw_G_V {B p n : Nat} {f f' g : Nat → Int32} (h : tw_G f f' (B + p * 5) n g) {w c : Nat} (hw : w ≠ p) (hc : c < 5) : tw_V B f' w c = tw_V B f w c := h.2 _ (by omega)
theorem tw_G_Y {B p n : Nat} {f f' g : Nat → Int32} (h : tw_G f f' (B + 5 * p) n g) {w c : Nat} (hw : w ≠ p) (hc : c < 5) : tw_Y B f' w c = tw_Y B f w c := h.2 _ (by omega)
theorem tw_up_0 {vs v : Nat} {P K A Z W : Nat → Nat} {num : Nat → Int32} {b : Bool} {B : Nat} {ce rc : Nat → Int32} (hr : ∀ w, w < vs → rc w = if w = v then 1 else 0) (hv : v < vs) : tw_up vs v P K A Z W num b B ce v rc ce := by
  have r1 : rc v = 1 := by rw [hr v hv, if_pos rfl]
  have r2 : ∀ w, w < vs → rc w = 1 → w = v := by
    intro w hw k
    by_cases e : w = v
    · exact e
    · rw [hr w hw, if_neg e] at k; exact absurd k tw_01
  refine ⟨Nat.le_refl _, r1, r1, fun w hw => ?_, fun w hw k => ?_, fun w hw k n => absurd (r2 w hw k) n, fun w w' hw hw' k k' n => absurd (r2 w hw k) n, fun _ _ => rfl, fun _ _ _ _ _ => rfl, fun _ _ => rfl⟩
  · by_cases e : w = v
    · subst e; exact Or.inr r1
    · rw [hr w hw, if_neg e]; exact Or.inl rfl
  · have := r2 w hw k; omega
theorem tw_up_s {vs v : Nat} {P K A Z W : Nat → Nat} {num : Nat → Int32} {b : Bool} {B h : Nat} {ce rc f f' : Nat → Int32} (hw : tw_wf vs P K A Z W) (hv : v < vs) (h0 : 0 < h) (I : tw_up vs v P K A Z W num b B ce h rc f)
    (G : tw_G f f' (B + P h * 5) (W (P h)) (tw_tp (K h) (A h) (Z h) (num h) b (fun c => f (B + h * 5 + c)) (fun c => f (B + P h * 5 + c)))) : tw_up vs v P K A Z W num b B ce (P h) (upd rc (P h) 1) f' := by
  obtain ⟨a1, a2, a3, a4, a5, a6, a7, a8, a9, a10⟩ := I
  have hq := hw.2.2.2 h h0 (by omega)
  have h8 := hw.2.1
  have p0 : rc (P h) = 0 := by
    rcases a4 (P h) (by omega) with q | q
    · exact q
    · have := (a5 (P h) (by omega) q).1; omega
  have W5 : ∀ w, w < vs → ∀ c, c < W w → c < 5 := fun w hw' c hc => by have := (hw.2.2.1 w hw').2; omega
  have pick : ∀ w, w ≠ P h → upd rc (P h) 1 w = 1 → rc w = 1 := fun w n k => by rw [pk_un n] at k; exact k
  refine ⟨by omega, pk_us, ?_, fun w hw' => ?_, fun w hw' k => ?_, fun w hw' k n => ?_, fun w w' hw1 hw2 k k' n n' e => ?_, fun c hc => ?_, fun w hw' k c hc => ?_, fun j hj => ?_⟩
  · rw [pk_un (by omega)]; exact a3
  · by_cases e : w = P h
    · rw [e]; exact Or.inr pk_us
    · rw [pk_un e]; exact a4 w hw'
  · by_cases e : w = P h
    · omega
    · have := a5 w hw' (pick w e k); omega
  · have k1 := pick w n k
    by_cases e : w = h
    · subst e
      refine ⟨pk_us, fun c hc => ?_⟩
      refine (G.1 c hc).trans (tw_tp_c hq.2 (fun c hc => ?_) (fun _ c hc => ?_) c hc)
      · exact (tw_G_V G (w := w) (by omega) (W5 w hw' c hc)).symm
      · exact a9 (P w) (by omega) p0 c (W5 (P w) (by omega) c hc)
    · have b1 := a6 w hw' k1 e
      have hw0 : 0 < w := by have := a5 w hw' k1; omega
      have hqw := hw.2.2.2 w hw0 hw'
      have ne : P w ≠ P h := by
        intro q
        have := b1.1
        rw [q, p0] at this; exact absurd this tw_01
      refine ⟨by rw [pk_un ne]; exact b1.1, fun c hc => ?_⟩
      rw [tw_G_V G ne (W5 (P w) (by omega) c hc), b1.2 c hc]
      exact tw_tp_c hqw.2 (fun c hc => (tw_G_V G n (W5 w hw' c hc)).symm) (fun _ c hc => rfl) c hc
  · have k1 := pick w n k
    have k2 := pick w' n' k'
    by_cases e1 : w = h
    · by_cases e2 : w' = h
      · omega
      · have := (a6 w' hw2 k2 e2).1
        rw [← e, e1, p0] at this; exact absurd this tw_01
    · by_cases e2 : w' = h
      · have := (a6 w hw1 k1 e1).1
        rw [e, e2, p0] at this; exact absurd this tw_01
      · exact a7 w w' hw1 hw2 k1 k2 e1 e2 e
  · rw [tw_G_V G (by omega) (W5 v hv c hc)]; exact a8 c hc
  · have n : w ≠ P h := by
      intro q; rw [q, pk_us] at k; exact tw_10 k
    rw [pk_un n] at k
    rw [tw_G_V G n hc]; exact a9 w hw' k c hc
  · rw [G.2 j (by omega)]; exact a10 j hj
def tw_dn (vs : Nat) (P K A Z W : Nat → Nat) (num : Nat → Int32) (b : Bool) (B : Nat) (ce rc f1 : Nat → Int32) (i : Nat) (f : Nat → Int32) : Prop :=
  (∀ w, w < vs → rc w = 1 → ∀ c, c < 5 → tw_V B f w c = tw_V B f1 w c) ∧ (∀ w, 0 < w → w < vs → w < i → rc w = 0 → ∀ c, c < W w → tw_V B f w c = tw_td (K w) (A w) (Z w) (num w) (W w) b (tw_V B f (P w)) (tw_V B ce w) c) ∧ (∀ w, i ≤ w → w < vs → rc w = 0 → ∀ c, c < 5 → tw_V B f w c = tw_V B ce w c) ∧ (∀ j, j < B ∨ B + 40 ≤ j → f j = ce j)
theorem tw_dn_0 {vs v : Nat} {P K A Z W : Nat → Nat} {num : Nat → Int32} {b : Bool} {B : Nat} {ce rc f : Nat → Int32} (I : tw_up vs v P K A Z W num b B ce 0 rc f) : tw_dn vs P K A Z W num b B ce rc f 1 f := by
  obtain ⟨a1, a2, a3, a4, a5, a6, a7, a8, a9, a10⟩ := I
  exact ⟨fun _ _ _ _ _ => rfl, fun w h0 _ h1 => absurd h0 (by omega), fun w _ hw k c hc => a9 w hw k c hc, a10⟩
theorem tw_dn_k {vs : Nat} {P K A Z W : Nat → Nat} {num : Nat → Int32} {b : Bool} {B i : Nat} {ce rc f1 f : Nat → Int32} (I : tw_dn vs P K A Z W num b B ce rc f1 i f) (hr : rc i = 1) : tw_dn vs P K A Z W num b B ce rc f1 (i + 1) f := by
  obtain ⟨a1, a2, a3, a4⟩ := I
  refine ⟨a1, fun w w0 w1 w2 k c hc => ?_, fun w h hw k c hc => a3 w (by omega) hw k c hc, a4⟩
  have : w ≠ i := by
    intro q; subst q; rw [hr] at k; exact tw_10 k
  exact a2 w w0 w1 (by omega) k c hc
theorem tw_dn_s {vs : Nat} {P K A Z W : Nat → Nat} {num : Nat → Int32} {b : Bool} {B i : Nat} {ce rc f1 f f' : Nat → Int32} (hw : tw_wf vs P K A Z W) (I : tw_dn vs P K A Z W num b B ce rc f1 i f) (i0 : 0 < i) (i1 : i < vs) (hr : rc i = 0)
    (G : tw_G f f' (B + i * 5) (W i) (tw_td (K i) (A i) (Z i) (num i) (W i) b (fun c => f (B + P i * 5 + c)) (fun c => f (B + i * 5 + c)))) : tw_dn vs P K A Z W num b B ce rc f1 (i + 1) f' := by
  obtain ⟨a1, a2, a3, a4⟩ := I
  have h8 := hw.2.1
  have W5 : ∀ w, w < vs → ∀ c, c < W w → c < 5 := fun w hw' c hc => by have := (hw.2.2.1 w hw').2; omega
  refine ⟨fun w w1 k c hc => ?_, fun w w0 w1 w2 k c hc => ?_, fun w h w1 k c hc => ?_, fun j hj => ?_⟩
  · have n : w ≠ i := by
      intro q; subst q; rw [hr] at k; exact tw_01 k
    rw [tw_G_V G n hc]; exact a1 w w1 k c hc
  · have hq := hw.2.2.2 w w0 w1
    by_cases e : w = i
    · subst e
      refine (G.1 c hc).trans (tw_td_c hq.2 (fun c hc => ?_) (fun _ c hc => ?_) c hc)
      · exact (tw_G_V G (w := P w) (by omega) (W5 (P w) (by omega) c hc)).symm
      · exact a3 w (Nat.le_refl _) w1 hr c (W5 w w1 c hc)
    · rw [tw_G_V G e (W5 w w1 c hc), a2 w w0 w1 (by omega) k c hc]
      exact tw_td_c hq.2 (fun c hc => (tw_G_V G (w := P w) (by omega) (W5 (P w) (by omega) c hc)).symm) (fun _ c hc => rfl) c hc
  · rw [tw_G_V G (by omega) hc]; exact a3 w (by omega) w1 k c hc
  · rw [G.2 j (by omega)]; exact a4 j hj
theorem tw_dn_e {vs v : Nat} {P K A Z W : Nat → Nat} {num : Nat → Int32} {b : Bool} {B : Nat} {ce rc f1 f : Nat → Int32} (hw : tw_wf vs P K A Z W) (hv : v < vs) (U : tw_up vs v P K A Z W num b B ce 0 rc f1) (I : tw_dn vs P K A Z W num b B ce rc f1 vs f) :
    tw_path vs v P rc ∧ tw_fin vs v P K A Z W num b rc (tw_V B ce) (tw_V B f) ∧ ∀ j, j < B ∨ B + 40 ≤ j → f j = ce j := by
  obtain ⟨a1, a2, a3, a4, a5, a6, a7, a8, a9, a10⟩ := U
  obtain ⟨b1, b2, b3, b4⟩ := I
  have W5 : ∀ w, w < vs → ∀ c, c < W w → c < 5 := fun w hw' c hc => by have := (hw.2.2.1 w hw').2; omega
  refine ⟨⟨a4, a3, fun w w0 w1 k => ⟨(a6 w w1 k (by omega)).1, ?_⟩, fun w w' w0 w1 w0' w1' k k' e => a7 w w' w1 w1' k k' (by omega) (by omega) e⟩, ⟨fun c hc => ?_, fun w w0 w1 => ⟨fun k c hc => ?_, fun k c hc => b2 w w0 w1 w1 k c hc⟩⟩, b4⟩
  · have := hw.2.2.2 w w0 w1
    have := a5 w w1 k
    omega
  · rw [b1 v hv a3 c (W5 v hv c hc)]; exact a8 c hc
  · have hq := hw.2.2.2 w w0 w1
    have q := a6 w w1 k (by omega)
    rw [b1 (P w) (by omega) q.1 c (W5 (P w) (by omega) c hc), q.2 c hc]
    exact tw_tp_c hq.2 (fun c hc => (b1 w w1 k c (W5 w w1 c hc)).symm) (fun _ c hc => rfl) c hc
end
section
/-! SchemaTwins: the reference's rows move up at an insert, down at a delete -/
def tw_sh (n key : Nat) (KY : Nat → Nat) (ky va : Nat → Int32) (a : Nat) (ky' va' : Nat → Int32) : Prop :=
  a ≤ n ∧ (∀ r, a ≤ r → r < n → key < KY r) ∧ (∀ r, r < a → ky' r = ky r ∧ ∀ i, i < 40 → va' (40 * r + i) = va (40 * r + i)) ∧ (∀ r, a ≤ r → r < n → ky' (r + 1) = ky r ∧ ∀ i, i < 40 → va' (40 * (r + 1) + i) = va (40 * r + i)) ∧ (∀ i, i < 40 → va' (480 + i) = va (480 + i))
theorem tw_sh_0 {n key : Nat} {KY : Nat → Nat} {ky va : Nat → Int32} : tw_sh n key KY ky va n ky va :=
  ⟨Nat.le_refl _, fun r h1 h2 => absurd h2 (by omega), fun _ _ => ⟨rfl, fun _ _ => rfl⟩, fun r h1 h2 => absurd h2 (by omega), fun _ _ => rfl⟩
theorem tw_sh_s {n key a : Nat} {KY : Nat → Nat} {ky va ky' va' va2 : Nat → Int32} (h : tw_sh n key KY ky va (a + 1) ky' va') (hn : n < 12) (hk : key < KY a) (C : tw_I va' (40 * (a + 1)) (fun i => va' (40 * a + i)) 40 va2) : tw_sh n key KY ky va a (upd ky' (a + 1) (ky' a)) va2 := by
  obtain ⟨a1, a2, a3, a4, a5⟩ := h
  refine ⟨by omega, fun r h1 h2 => ?_, fun r hr => ⟨?_, fun i hi => ?_⟩, fun r h1 h2 => ⟨?_, fun i hi => ?_⟩, fun i hi => ?_⟩
  · by_cases e : r = a
    · rw [e]; exact hk
    · exact a2 r (by omega) h2
  · rw [pk_un (by omega)]; exact (a3 r (by omega)).1
  · rw [C.2 _ (by omega)]; exact (a3 r (by omega)).2 i hi
  · by_cases e : r = a
    · rw [e, pk_us]; exact (a3 a (by omega)).1
    · rw [pk_un (by omega)]; exact (a4 r (by omega) h2).1
  · by_cases e : r = a
    · rw [e]; exact (C.1 i hi).trans ((a3 a (by omega)).2 i hi)
    · rw [C.2 _ (by omega)]; exact (a4 r (by omega) h2).2 i hi
  · rw [C.2 _ (by omega)]; exact a5 i hi
def tw_sd (n a : Nat) (ky va : Nat → Int32) (k : Nat) (ky' va' : Nat → Int32) : Prop :=
  a ≤ k ∧ k ≤ n ∧ (∀ r, r < a → ky' r = ky r ∧ ∀ i, i < 40 → va' (40 * r + i) = va (40 * r + i)) ∧ (∀ r, a ≤ r → r < k → ky' r = ky (r + 1) ∧ ∀ i, i < 40 → va' (40 * r + i) = va (40 * (r + 1) + i)) ∧ (∀ r, k ≤ r → r < 12 → ky' r = ky r ∧ ∀ i, i < 40 → va' (40 * r + i) = va (40 * r + i))
theorem tw_sd_0 {n a : Nat} {ky va : Nat → Int32} (h : a ≤ n) : tw_sd n a ky va a ky va :=
  ⟨Nat.le_refl _, h, fun _ _ => ⟨rfl, fun _ _ => rfl⟩, fun r h1 h2 => absurd h2 (by omega), fun _ _ _ => ⟨rfl, fun _ _ => rfl⟩⟩
theorem tw_sd_s {n a k : Nat} {ky va ky' va' va2 : Nat → Int32} (h : tw_sd n a ky va k ky' va') (hn : n < 12) (hk : k < n) (C : tw_I va' (40 * k) (fun i => va' (40 * (k + 1) + i)) 40 va2) : tw_sd n a ky va (k + 1) (upd ky' k (ky' (k + 1))) va2 := by
  obtain ⟨a1, a2, a3, a4, a5⟩ := h
  refine ⟨by omega, by omega, fun r hr => ⟨?_, fun i hi => ?_⟩, fun r h1 h2 => ⟨?_, fun i hi => ?_⟩, fun r h1 h2 => ⟨?_, fun i hi => ?_⟩⟩
  · rw [pk_un (by omega)]; exact (a3 r hr).1
  · rw [C.2 _ (by omega)]; exact (a3 r hr).2 i hi
  · by_cases e : r = k
    · rw [e, pk_us]; exact (a5 (k + 1) (by omega) (by omega)).1
    · rw [pk_un e]; exact (a4 r h1 (by omega)).1
  · by_cases e : r = k
    · rw [e]; exact (C.1 i hi).trans ((a5 (k + 1) (by omega) (by omega)).2 i hi)
    · rw [C.2 _ (by omega)]; exact (a4 r h1 (by omega)).2 i hi
  · rw [pk_un (by omega)]; exact (a5 r (by omega) h2).1
  · rw [C.2 _ (by omega)]; exact (a5 r (by omega) h2).2 i hi
/-! numbers and booleans as the walks have them -/
def tw_f (P : Nat → Nat) (w : Nat) : Int32 := nI (P w)
theorem tw_f_u (P : Nat → Nat) (k x : Nat) : upd (tw_f P) k (nI x) = tw_f (tw_un P k x) := tw_unI P k x
theorem tw_f_0 : tw_f (fun _ => 0) = fun _ => 0 := rfl
theorem tw_in {n N : Nat} (h : n < N) (hN : N < 2 ^ 31) : vp_in (nI n) N = True := eq_true (vp_in_nI h hN)
theorem tw_th_o {k x z c : Nat} (h1 : k ≠ 1) (h4 : k ≠ 4) : tw_th k x z c = c := by
  unfold tw_th; split
  · exact absurd rfl h1
  · exact absurd rfl h4
  · rfl
def tw_b (b : Bool) : Int32 := if b = true then 1 else 0
theorem tw_b0 : vp_nar .boolean 0 = 0 := by decide
theorem tw_b1 : vp_nar .boolean 1 = 1 := by decide
theorem tw_cb (r w : Nat) : nI r * 40 + nI w * 5 = nI (r * 40 + w * 5) := by
  show nI r * nI 40 + nI w * nI 5 = _
  rw [pk_mul, pk_mul, nI_add]
theorem tw_cr (r : Nat) : nI r * 40 = nI (r * 40) := pk_mul r 40
theorem tw_cY (r w : Nat) : 40 * nI r + 5 * nI w = nI (40 * r + 5 * w) := by
  show nI 40 * nI r + nI 5 * nI w = _
  rw [pk_mul, pk_mul, nI_add]
theorem tw_40 (r : Nat) : 40 * nI r = nI (40 * r) := pk_mul 40 r
theorem tw_5 (r : Nat) : 5 * nI r = nI (5 * r) := pk_mul 5 r
theorem tw_480 (r : Nat) : 480 + nI r = nI (480 + r) := nI_add 480 r
/-- an int is a number below n, or it is none -/
theorem tw_lt (x : Int32) {n : Nat} (hn : n < 2 ^ 31) : (∃ j : Nat, j < n ∧ x = nI j ∧ ¬ x < 0 ∧ 0 ≤ x ∧ x < nI n ∧ ¬ nI n ≤ x) ∨ (x < 0 ∧ ¬ 0 ≤ x) ∨ (¬ x < 0 ∧ 0 ≤ x ∧ nI n ≤ x ∧ ¬ x < nI n) := by
  rcases pk_ix x hn with h | h | ⟨j, h, e⟩
  · exact Or.inr (Or.inl ⟨h, Int32.not_le.mpr h⟩)
  · have z : (0 : Int32) ≤ x := Int32.le_trans (nI_pos' hn) h
    exact Or.inr (Or.inr ⟨Int32.not_lt.mpr z, z, h, Int32.not_lt.mpr h⟩)
  · have z : ¬ x < 0 := by rw [e]; exact nI_pos (by omega)
    have g : x < nI n := by rw [e]; exact nI_lt h hn
    exact Or.inl ⟨j, h, e, z, Int32.not_lt.mp z, g, Int32.not_le.mpr g⟩
theorem tw_c1 {A B : Prop} (b : B) : ((1 : Int32) = 0 → A) ∧ (¬ (1 : Int32) = 0 → B) := br_f tw_10 b
theorem tw_c0 {A B : Prop} (a : A) : ((0 : Int32) = 0 → A) ∧ (¬ (0 : Int32) = 0 → B) := br_t rfl a
theorem tw_w0 {m : Nat} (h : m ≤ 511) : nI m &&& 7 = nI (m % 8) := pk_andN (by omega) 3 (by decide)
theorem tw_w3 {m : Nat} (h : m ≤ 511) : (nI m >>> ((3 : Int32) &&& 31)) &&& 7 = nI (m / 8 % 8) := by
  have e := pk_shrN (n := m) (by omega) ((3 : Int32) &&& 31) 3 (by decide)
  rw [e]
  exact pk_andN (by omega) 3 (by decide)
theorem tw_w6 {m : Nat} (h : m ≤ 511) : nI m >>> ((6 : Int32) &&& 31) = nI (m / 64) := pk_shrN (by omega) _ 6 (by decide)
theorem tw_w7 {m : Nat} (h : m ≤ 511) : (nI m >>> ((6 : Int32) &&& 31)) &&& 7 = nI (m / 64) := by
  rw [tw_w6 h]
  have e : m / 64 % 8 = m / 64 := Nat.mod_eq_of_lt (by omega)
  have g : nI (m / 64) &&& 7 = nI (m / 64 % 8) := pk_andN (by omega) 3 (by decide)
  rw [g, e]
/-- the rounds of carry: some version below 8 - j is known -/
def tw_rd (vs j : Nat) (kn : Nat → Int32) : Prop := (∃ m, m < vs ∧ kn m = 1 ∧ (m = 0 ∨ m + j ≤ 7)) ∧ (j = 8 → ∀ u, u < vs → kn u = 1)
/-- inside a round, at version i -/
def tw_ri (vs : Nat) (P : Nat → Nat) (m i : Nat) (kn : Nat → Int32) : Prop := kn m = 1 ∧ (m = 0 ∨ i ≤ m ∨ kn (P m) = 1) ∧ (m = 0 → ∀ u, u < i → kn u = 1)
theorem tw_ri_0 {vs : Nat} {P : Nat → Nat} {m : Nat} {kn : Nat → Int32} (h : kn m = 1) : tw_ri vs P m 1 kn := by
  refine ⟨h, by omega, fun e u hu => ?_⟩
  have : u = m := by omega
  rw [this]; exact h
theorem tw_ri_e {vs j : Nat} {P : Nat → Nat} {m : Nat} {kn : Nat → Int32} (hP : ∀ w, 0 < w → w < vs → P w < w) (hm : m < vs) (hj : j < 8) (hmj : m = 0 ∨ m + j ≤ 7) (h : tw_ri vs P m vs kn) : tw_rd vs (j + 1) kn := by
  obtain ⟨h1, h2, h3⟩ := h
  by_cases e : m = 0
  · exact ⟨⟨m, hm, h1, Or.inl e⟩, fun _ => h3 e⟩
  · have p := hP m (by omega) hm
    refine ⟨⟨P m, by omega, ?_, Or.inr (by omega)⟩, fun q => absurd q (by omega)⟩
    rcases h2 with q | q | q
    · exact absurd q e
    · omega
    · exact q
/-- a round's step that writes nothing: parent and child alike -/
theorem tw_ri_k {vs : Nat} {P : Nat → Nat} {m i : Nat} {kn : Nat → Int32} (h : tw_ri vs P m i kn) (hi : kn i = 1 ↔ kn (P i) = 1) (hP : P i < i) : tw_ri vs P m (i + 1) kn := by
  obtain ⟨h1, h2, h3⟩ := h
  refine ⟨h1, ?_, fun e u hu => ?_⟩
  · by_cases e : i = m
    · right; right; rw [← e]; rw [← e] at h1; exact hi.mp h1
    · rcases h2 with z | z | z
      · exact Or.inl z
      · exact Or.inr (Or.inl (by omega))
      · exact Or.inr (Or.inr z)
  · by_cases z : u = i
    · rw [z]; exact hi.mpr (h3 e _ hP)
    · exact h3 e u (by omega)
/-- a round's step that makes q known, where behind it child and parent are known -/
theorem tw_ri_s {vs : Nat} {P : Nat → Nat} {m i q : Nat} {kn : Nat → Int32} (h : tw_ri vs P m i kn) (hi : upd kn q 1 i = 1) (hp : upd kn q 1 (P i) = 1) : tw_ri vs P m (i + 1) (upd kn q 1) := by
  have mono : ∀ u, kn u = 1 → upd kn q 1 u = 1 := by
    intro u hu
    by_cases e : u = q
    · rw [e]; exact pk_us
    · rw [pk_un e]; exact hu
  obtain ⟨h1, h2, h3⟩ := h
  refine ⟨mono m h1, ?_, fun e u hu => ?_⟩
  · by_cases e : i = m
    · right; right; rw [← e]; exact hp
    · rcases h2 with z | z | z
      · exact Or.inl z
      · exact Or.inr (Or.inl (by omega))
      · exact Or.inr (Or.inr (mono _ z))
  · by_cases z : u = i
    · rw [z]; exact hi
    · exact mono u (h3 e u (by omega))
end
section
/-! SchemaTwins: the component's small methods -/
abbrev tw_X (vs n : Nat) (P K A Z W : Nat → Nat) (nu dr pr ce rc : Nat → Int32) : SX := (nI vs, nI n, tw_f P, tw_f K, tw_f A, tw_f Z, nu, tw_f W, dr, pr, ce, rc)
abbrev tw_S (vs n : Nat) (P K A Z W : Nat → Nat) (nu ky va dr kn : Nat → Int32) : SY := (nI vs, nI n, tw_f P, tw_f K, tw_f A, tw_f Z, nu, tw_f W, ky, va, dr, kn)
section
variable {vs n : Nat} {P K A Z W : Nat → Nat} {nu dr pr ce rc ky va kn : Nat → Int32} {post : Int32 → Prop}
theorem tw_xV1 {v : Nat} (hv : v < vs) (h8 : vs ≤ 8) (h : post 1) : wpX_isVersion post (tw_X vs n P K A Z W nu dr pr ce rc) (nI v) := br_f (nI_pos (by omega)) (br_f (nI_ge hv (by omega)) h)
theorem tw_xV0 {x : Int32} (h8 : vs ≤ 8) (hx : ¬ ∃ v, v < vs ∧ x = nI v) (h : post 0) : wpX_isVersion post (tw_X vs n P K A Z W nu dr pr ce rc) x := by
  rcases tw_lt x (n := vs) (by omega) with ⟨j, hj, e, _⟩ | ⟨a, _⟩ | ⟨a, b, c, d⟩
  · exact absurd ⟨j, hj, e⟩ hx
  · exact br_t a h
  · exact br_f a (br_t c h)
theorem tw_xK1 {v : Nat} (hv : v < 100) (h : post 1) : wpX_isKey post (tw_X vs n P K A Z W nu dr pr ce rc) (nI v) := br_f (nI_pos (by omega)) (br_f (nI_ge (b := 100) hv (by omega)) h)
theorem tw_xK0 {x : Int32} (hx : ¬ ∃ v, v < 100 ∧ x = nI v) (h : post 0) : wpX_isKey post (tw_X vs n P K A Z W nu dr pr ce rc) x := by
  rcases tw_lt x (n := 100) (by omega) with ⟨j, hj, e, _⟩ | ⟨a, _⟩ | ⟨a, b, c, d⟩
  · exact absurd ⟨j, hj, e⟩ hx
  · exact br_t a h
  · exact br_f a (br_t c h)
theorem tw_xcb {r w : Nat} (h : post (nI (r * 40 + w * 5))) : wpX_cellBase post (tw_X vs n P K A Z W nu dr pr ce rc) (nI r) (nI w) := by
  show post (nI r * 40 + nI w * 5)
  rw [tw_cb]; exact h
theorem tw_xcm {w : Nat} (hw : w < 8) (hk : K w ≤ 5) (h1 : 1 ≤ W w) (h : post (nI (tw_cm (K w) (W w)))) : wpX_commonColumns post (tw_X vs n P K A Z W nu dr pr ce rc) (nI w) := by
  unfold wpX_commonColumns
  simp (disch := omega) only [tw_X, nI_clamp, tw_f, tw_in, true_and]
  refine pk_eq (K w) 0 (fun e => ?_) (fun e => ?_)
  · have q : tw_cm (K w) (W w) = W w - 1 := by rw [e]; rfl
    rw [q, ← pk_sub h1] at h; exact h
  · have q : tw_cm (K w) (W w) = W w := if_neg e
    rw [q] at h; exact h
theorem tw_xcp {w c : Nat} (hw : w < 8) (hk : K w ≤ 5) (hx : A w < 8) (hz : Z w < 8) (hc : c < 8) (h : post (nI (tw_th (K w) (A w) (Z w) c))) : wpX_columnInParent post (tw_X vs n P K A Z W nu dr pr ce rc) (nI w) (nI c) := by
  unfold wpX_columnInParent wX_columnInParent_56
  simp (disch := omega) only [tw_X, forall_eq, nI_clamp, tw_f, tw_in, true_and, nI_1]
  refine pk_eq (K w) 1 (fun e => pk_le (A w) c (fun g => ?_) (fun g => ?_)) (fun e => pk_eq (K w) 4 (fun e4 => pk_eq c (A w) (fun g => ?_) (fun g => pk_eq (K w) 4 (fun _ => pk_eq c (Z w) (fun g' => ?_) (fun g' => ?_)) (fun q => absurd e4 q))) (fun e4 => pk_eq (K w) 4 (fun q => absurd q e4) (fun _ => ?_)))
  · have q : tw_th (K w) (A w) (Z w) c = c + 1 := by rw [e]; exact if_neg (by omega)
    rw [q] at h; exact h
  · have q : tw_th (K w) (A w) (Z w) c = c := by rw [e]; exact if_pos g
    rw [q] at h; exact h
  · have q : tw_th (K w) (A w) (Z w) c = Z w := by rw [e4]; exact if_pos g
    rw [q] at h; exact h
  · have q : tw_th (K w) (A w) (Z w) c = A w := by rw [e4]; exact (if_neg g).trans (if_pos g')
    rw [q] at h; exact h
  · have q : tw_th (K w) (A w) (Z w) c = c := by rw [e4]; exact (if_neg g).trans (if_neg g')
    rw [q] at h; exact h
  · rw [tw_th_o e e4] at h; exact h
theorem tw_xC1 {v c : Nat} (hv : v < vs) (h8 : vs ≤ 8) (hc : c < W v) (hW : W v ≤ 5) (h : post 1) : wpX_isColumn post (tw_X vs n P K A Z W nu dr pr ce rc) (nI v) (nI c) := by
  unfold wpX_isColumn
  dsimp only [tw_X]
  refine tw_xV1 hv h8 ?_
  refine tw_c1 (br_f (nI_pos (by omega)) ⟨vp_in_nI (by omega) (by omega), ?_⟩)
  rw [nI_clamp (by omega)]
  exact br_f (nI_ge hc (by omega)) h
theorem tw_xC0 {x y : Int32} (h8 : vs ≤ 8) (hW : ∀ v, v < vs → W v ≤ 5) (hx : ¬ ∃ v, v < vs ∧ x = nI v ∧ ∃ c, c < W v ∧ y = nI c) (h : post 0) : wpX_isColumn post (tw_X vs n P K A Z W nu dr pr ce rc) x y := by
  unfold wpX_isColumn
  dsimp only [tw_X]
  by_cases hv : ∃ v, v < vs ∧ x = nI v
  · obtain ⟨v, hv, rfl⟩ := hv
    have h5 := hW v hv
    refine tw_xV1 hv h8 ?_
    refine tw_c1 ?_
    rcases tw_lt y (n := W v) (by omega) with ⟨j, hj, e, _⟩ | ⟨a, _⟩ | ⟨a, b, c, d⟩
    · exact absurd ⟨v, hv, rfl, j, hj, e⟩ hx
    · exact br_t a h
    · refine br_f a ⟨vp_in_nI (by omega) (by omega), ?_⟩
      rw [nI_clamp (by omega)]
      exact br_t c h
  · refine tw_xV0 h8 hv ?_
    exact tw_c0 h
theorem tw_xpsl {r : Nat} (hr : r ≤ 100) (hw : tw_wf vs P K A Z W) : ∀ d i w, i + d = 8 → w < vs → post (tw_b (tw_ps P K A nu (tw_V (r * 40) ce) d w)) → wX_passes_5 post (nI r) (nI vs) (nI n) (tw_f P) (tw_f K) (tw_f A) (tw_f Z) nu (tw_f W) dr pr ce rc (d + 1) (nI w) (nI i) := by
  intro d
  induction d with
  | zero => 
    intro i w hi hv h
    exact br_t (nI_le (a := 8) (by omega) (by omega)) h
  | succ d ih =>
    intro i w hi hv h
    have h8 := hw.2.1
    refine br_f (nI_ge (b := 8) (by omega) (by omega)) ?_
    by_cases w0 : w = 0
    · subst w0
      exact br_t (Int32.le_refl _) h
    · have hq := hw.2.2.2 w (by omega) hv
      have ok := hq.2
      unfold tw_ok at ok
      have c : (nI w).toNatClampNeg = w := nI_clamp (by omega)
      have i8 : vp_in (nI w) 8 := vp_in_nI (by omega) (by omega)
      have e1 : tw_ps P K A nu (tw_V (r * 40) ce) (d + 1) w = if K w = 3 ∧ tw_V (r * 40) ce w (A w) < nu w then false else tw_ps P K A nu (tw_V (r * 40) ce) d (P w) := if_neg w0
      rw [e1] at h
      refine br_f (nI_nle (by omega) (by omega)) ⟨i8, ?_⟩
      simp (disch := omega) only [c, forall_eq, tw_f, tw_in, true_and, nI_1]
      refine pk_eq (K w) 3 (fun e => tw_xcb ?_) (fun e => ?_)
      · have hx : A w < 5 := by omega
        simp (disch := omega) only [c, forall_eq, tw_f, tw_in, true_and, nI_1, nI_add, nI_clamp]
        refine br_c (fun g => ?_) (fun g => ?_)
        · rw [if_neg (fun q => absurd g (Int32.not_le.mpr q.2))] at h
          exact ih (i + 1) (P w) (by omega) (by omega) h
        · rw [if_pos ⟨e, Int32.not_le.mp g⟩] at h
          exact h
      · rw [if_neg (fun q => e q.1)] at h
        exact ih (i + 1) (P w) (by omega) (by omega) h
theorem tw_xps {r v : Nat} (hr : r ≤ 100) (hw : tw_wf vs P K A Z W) (hv : v < vs) (h : post (tw_b (tw_ps P K A nu (tw_V (r * 40) ce) 8 v))) : wpX_passes post (tw_X vs n P K A Z W nu dr pr ce rc) (nI r) (nI v) := ⟨9, tw_xpsl hr hw 8 0 v rfl hv h⟩
theorem tw_xS {k v : Nat} (hk : k < 100) (hw : tw_wf vs P K A Z W) (hv : v < vs) (h0 : pr k = 0 → post 0) (h1 : pr k ≠ 0 → post (tw_b (tw_ps P K A nu (tw_V (k * 40) ce) 8 v))) : wpX_isShown post (tw_X vs n P K A Z W nu dr pr ce rc) (nI v) (nI k) := by
  unfold wpX_isShown
  dsimp only [tw_X]
  refine tw_xK1 hk ?_
  refine tw_c1 ⟨vp_in_nI hk (by omega), ?_⟩
  rw [nI_clamp (by omega)]
  refine br_c h0 (fun g => tw_xps (by omega) hw hv ?_)
  have h := h1 g
  cases e : tw_ps P K A nu (tw_V (k * 40) ce) 8 v
  · rw [e] at h; exact tw_c0 h
  · rw [e] at h; exact tw_c1 h
theorem tw_xS0 {x y : Int32} (hk : ¬ ∃ k, k < 100 ∧ y = nI k) (h : post 0) : wpX_isShown post (tw_X vs n P K A Z W nu dr pr ce rc) x y := by
  unfold wpX_isShown
  dsimp only [tw_X]
  refine tw_xK0 hk ?_
  exact tw_c0 h
end
end
section
/-! SchemaTwins: the component's moves, copies, and how it spreads a row -/
section
variable {vs n : Nat} {P K A Z W : Nat → Nat} {nu dr pr ce rc : Nat → Int32} {post : SX → Prop} {b : Bool}
theorem tw_xfpl {w lo hi wp : Nat} (hw : w < 8) (ok : tw_ok (K w) (A w) (Z w) wp (W w)) (hlo : lo + 5 ≤ 4040) (hhi : hi + 5 ≤ 4040) (hd : hi + 5 ≤ lo ∨ lo + 5 ≤ hi)
    (hp : ∀ f', tw_G ce f' lo (W w) (tw_td (K w) (A w) (Z w) (nu w) (W w) b (fun c => ce (hi + c)) (fun c => ce (lo + c))) → post (tw_X vs n P K A Z W nu dr pr f' rc)) :
    ∀ d i f, i + d = tw_cm (K w) (W w) → tw_I ce lo (fun c => ce (hi + tw_th (K w) (A w) (Z w) c)) i f →
    wX_followParent_31 post (nI w) (tw_b b) (nI hi) (nI lo) (nI (tw_cm (K w) (W w))) (nI vs) (nI n) (d + 1) (nI i) (tw_f P) (tw_f K) (tw_f A) (tw_f Z) nu (tw_f W) dr pr f rc := by
  have ok' := ok
  unfold tw_ok at ok'
  have c : (nI w).toNatClampNeg = w := nI_clamp (by omega)
  have i8 : vp_in (nI w) 8 := vp_in_nI (by omega) (by omega)
  have cm5 : tw_cm (K w) (W w) ≤ 5 := by unfold tw_cm; split <;> omega
  intro d
  induction d with
  | zero =>
    intro i f hi' I
    have ei : i = tw_cm (K w) (W w) := by omega
    rw [ei] at I ⊢
    refine br_t (Int32.le_refl _) ⟨i8, nm_e ⟨i8, ?_⟩⟩
    simp only [c, tw_f]
    refine pk_eq (K w) 2 (fun e => ?_) (fun e2 => ⟨i8, pk_eq (K w) 5 (fun e => ?_) (fun e5 => ⟨i8, pk_eq (K w) 0 (fun e => ?_) (fun e0 => ?_)⟩)⟩)
    · simp (disch := omega) only [forall_eq, nI_add, nI_clamp, tw_in, true_and]
      exact hp _ (tw_fp_2k e ok I)
    · simp (disch := omega) only [forall_eq, nI_add, nI_clamp, tw_in, true_and]
      exact hp _ (tw_fp_5k e ok I)
    · cases b
      · exact tw_c0 (hp _ (tw_fp_n ok I e2 e5 (fun _ => rfl)))
      · refine tw_c1 ?_
        have q : tw_cm (K w) (W w) < 5 := by unfold tw_cm; rw [if_pos e]; omega
        simp (disch := omega) only [forall_eq, nI_add, nI_clamp, tw_in, true_and]
        exact hp _ (tw_fp_0k e ok I)
    · exact hp _ (tw_fp_n ok I e2 e5 (fun q => absurd q e0))
  | succ d ih =>
    intro i f hi' I
    have t5 := tw_th_lt ok (c := i) (by omega)
    refine br_f (nI_ge (by omega) (by omega)) (tw_xcp (by omega) (by omega) (by omega) (by omega) (by omega) ?_)
    simp (disch := omega) only [forall_eq, nI_add, nI_clamp, tw_in, true_and, nI_1]
    exact ih (i + 1) _ (by omega) (tw_I_s I (I.2 _ (by omega)))
theorem tw_xfp {r w : Nat} (hr : r ≤ 100) (hw : w < 8) (hP : P w < w) (ok : tw_ok (K w) (A w) (Z w) (W (P w)) (W w))
    (hp : ∀ f', tw_G ce f' (r * 40 + w * 5) (W w) (tw_td (K w) (A w) (Z w) (nu w) (W w) b (fun c => ce (r * 40 + P w * 5 + c)) (fun c => ce (r * 40 + w * 5 + c))) → post (tw_X vs n P K A Z W nu dr pr f' rc)) :
    wpX_followParent post (tw_X vs n P K A Z W nu dr pr ce rc) (nI r) (nI w) (tw_b b) := by
  have ok' := ok
  unfold tw_ok at ok'
  refine ⟨vp_in_nI (by omega) (by omega), ?_⟩
  rw [nI_clamp (by omega)]
  refine tw_xcb (w := P w) (tw_xcb (tw_xcm hw (by omega) (by omega) ⟨tw_cm (K w) (W w) + 1, ?_⟩))
  exact tw_xfpl hw ok (by omega) (by omega) (by omega) hp _ 0 _ (by omega) tw_I_0
theorem tw_xfcl {w lo hi wp : Nat} (hw : w < 8) (ok : tw_ok (K w) (A w) (Z w) wp (W w)) (hlo : lo + 5 ≤ 4040) (hhi : hi + 5 ≤ 4040) (hd : hi + 5 ≤ lo ∨ lo + 5 ≤ hi)
    (hp : ∀ f', tw_G ce f' hi wp (tw_tp (K w) (A w) (Z w) (nu w) b (fun c => ce (lo + c)) (fun c => ce (hi + c))) → post (tw_X vs n P K A Z W nu dr pr f' rc)) :
    ∀ d i f, i + d = tw_cm (K w) (W w) → tw_J ce lo hi (K w) (A w) (Z w) i f →
    wX_followChild_31 post (nI w) (tw_b b) (nI hi) (nI lo) (nI (tw_cm (K w) (W w))) (nI vs) (nI n) (d + 1) (nI i) (tw_f P) (tw_f K) (tw_f A) (tw_f Z) nu (tw_f W) dr pr f rc := by
  have ok' := ok
  unfold tw_ok at ok'
  have c : (nI w).toNatClampNeg = w := nI_clamp (by omega)
  have i8 : vp_in (nI w) 8 := vp_in_nI (by omega) (by omega)
  have cm5 : tw_cm (K w) (W w) ≤ 5 := by unfold tw_cm; split <;> omega
  intro d
  induction d with
  | zero =>
    intro i f hi' I
    have ei : i = tw_cm (K w) (W w) := by omega
    rw [ei] at I ⊢
    refine br_t (Int32.le_refl _) ⟨i8, nm_e ⟨i8, ?_⟩⟩
    simp only [c, tw_f]
    refine pk_eq (K w) 2 (fun e => ?_) (fun e2 => ⟨i8, pk_eq (K w) 5 (fun e => ?_) (fun e5 => ⟨i8, pk_eq (K w) 1 (fun e => ?_) (fun e0 => ?_)⟩)⟩)
    · simp (disch := omega) only [forall_eq, nI_add, nI_clamp, tw_in, true_and]
      exact hp _ (tw_fc_2k e ok I)
    · simp (disch := omega) only [forall_eq, nI_add, nI_clamp, tw_in, true_and]
      exact hp _ (tw_fc_5k e ok I)
    · cases b
      · exact tw_c0 (hp _ (tw_fc_n ok I e2 e5 (fun _ => rfl)))
      · refine tw_c1 ?_
        simp (disch := omega) only [forall_eq, nI_add, nI_clamp, tw_in, true_and]
        exact hp _ (tw_fc_1k e ok I)
    · exact hp _ (tw_fc_n ok I e2 e5 (fun q => absurd q e0))
  | succ d ih =>
    intro i f hi' I
    have t5 := tw_th_lt ok (c := i) (by omega)
    refine br_f (nI_ge (by omega) (by omega)) (tw_xcp (by omega) (by omega) (by omega) (by omega) (by omega) ?_)
    simp (disch := omega) only [forall_eq, nI_add, nI_clamp, tw_in, true_and, nI_1]
    exact ih (i + 1) _ (by omega) (tw_J_s I (tw_J_f ok (by omega) I _ (by omega)))
theorem tw_xfc {r w : Nat} (hr : r ≤ 100) (hw : w < 8) (hP : P w < w) (ok : tw_ok (K w) (A w) (Z w) (W (P w)) (W w))
    (hp : ∀ f', tw_G ce f' (r * 40 + P w * 5) (W (P w)) (tw_tp (K w) (A w) (Z w) (nu w) b (fun c => ce (r * 40 + w * 5 + c)) (fun c => ce (r * 40 + P w * 5 + c))) → post (tw_X vs n P K A Z W nu dr pr f' rc)) :
    wpX_followChild post (tw_X vs n P K A Z W nu dr pr ce rc) (nI r) (nI w) (tw_b b) := by
  have ok' := ok
  unfold tw_ok at ok'
  refine ⟨vp_in_nI (by omega) (by omega), ?_⟩
  rw [nI_clamp (by omega)]
  refine tw_xcb (w := P w) (tw_xcb (tw_xcm hw (by omega) (by omega) ⟨tw_cm (K w) (W w) + 1, ?_⟩))
  exact tw_xfcl hw ok (by omega) (by omega) (by omega) hp _ 0 _ (by omega) tw_J_0
theorem tw_xcrl {s t : Nat} (hs : s + 40 ≤ 4040) (ht : t + 40 ≤ 4040) (hd : s + 40 ≤ t ∨ t + 40 ≤ s) (hp : ∀ f', tw_I ce t (fun i => ce (s + i)) 40 f' → post (tw_X vs n P K A Z W nu dr pr f' rc)) :
    ∀ d i f, i + d = 40 → tw_I ce t (fun i => ce (s + i)) i f → wX_copyRow_14 post (nI s) (nI t) (nI vs) (nI n) (d + 1) (nI i) (tw_f P) (tw_f K) (tw_f A) (tw_f Z) nu (tw_f W) dr pr f rc := by
  intro d
  induction d with
  | zero =>
    intro i f hi' I
    have ei : i = 40 := by omega
    subst ei
    exact br_t (Int32.le_refl _) (hp _ I)
  | succ d ih =>
    intro i f hi' I
    refine br_f (nI_ge (b := 40) (by omega) (by omega)) ?_
    simp (disch := omega) only [forall_eq, nI_add, nI_clamp, tw_in, true_and, nI_1]
    exact ih (i + 1) _ (by omega) (tw_I_s I (I.2 _ (by omega)))
theorem tw_xcr {s t : Nat} (hs : s ≤ 100) (ht : t ≤ 100) (hd : s ≠ t) (hp : ∀ f', tw_I ce (t * 40) (fun i => ce (s * 40 + i)) 40 f' → post (tw_X vs n P K A Z W nu dr pr f' rc)) :
    wpX_copyRow post (tw_X vs n P K A Z W nu dr pr ce rc) (nI s) (nI t) := by
  refine nm_r (tw_cr s) (nm_r (tw_cr t) ⟨41, ?_⟩)
  exact tw_xcrl (by omega) (by omega) (by omega) hp 40 0 _ rfl tw_I_0
/-! spread -/
theorem tw_xdn {r v : Nat} (hr : r ≤ 100) (hw : tw_wf vs P K A Z W) (hv : v < vs) {f1 : Nat → Int32} (U : tw_up vs v P K A Z W nu b (r * 40) ce 0 rc f1)
    (hp : ∀ f' rc', tw_path vs v P rc' → tw_fin vs v P K A Z W nu b rc' (tw_V (r * 40) ce) (tw_V (r * 40) f') → (∀ j, j < r * 40 ∨ r * 40 + 40 ≤ j → f' j = ce j) → post (tw_X vs n P K A Z W nu dr pr f' rc')) :
    ∀ d i f, i + d = vs → 0 < i → tw_dn vs P K A Z W nu b (r * 40) ce rc f1 i f → wX_spread_83 post (nI r) (tw_b b) (d + 1) (nI i) (nI vs) (nI n) (tw_f P) (tw_f K) (tw_f A) (tw_f Z) nu (tw_f W) dr pr f rc := by
  have h8 := hw.2.1
  intro d
  induction d with
  | zero =>
    intro i f hi' i0 I
    have ei : i = vs := by omega
    subst ei
    have q := tw_dn_e hw hv U I
    exact br_t (Int32.le_refl _) (hp _ _ q.1 q.2.1 q.2.2)
  | succ d ih =>
    intro i f hi' i0 I
    have hq := hw.2.2.2 i i0 (by omega)
    refine br_f (nI_ge (by omega) (by omega)) ⟨vp_in_nI (by omega) (by omega), ?_⟩
    rw [nI_clamp (by omega)]
    refine br_c (fun e => ?_) (fun e => ?_)
    · refine tw_xfp hr (by omega) hq.1 hq.2 (fun f' G => ?_)
      refine nm_r (nI_1 i) ?_
      exact ih (i + 1) f' (by omega) (by omega) (tw_dn_s hw I i0 (by omega) e G)
    · refine nm_r (nI_1 i) ?_
      have r1 : rc i = 1 := by
        rcases U.2.2.2.1 i (by omega) with q | q
        · exact absurd q e
        · exact q
      exact ih (i + 1) f (by omega) (by omega) (tw_dn_k I r1)
theorem tw_xup {r v : Nat} (hr : r ≤ 100) (hw : tw_wf vs P K A Z W) (hv : v < vs)
    (hp : ∀ f' rc', tw_path vs v P rc' → tw_fin vs v P K A Z W nu b rc' (tw_V (r * 40) ce) (tw_V (r * 40) f') → (∀ j, j < r * 40 ∨ r * 40 + 40 ≤ j → f' j = ce j) → post (tw_X vs n P K A Z W nu dr pr f' rc')) :
    ∀ d i h rc f, i + d = 8 → (h = 0 ∨ h + i ≤ 7) → tw_up vs v P K A Z W nu b (r * 40) ce h rc f → wX_spread_37 post (nI r) (tw_b b) (d + 1) (nI h) (nI i) (nI vs) (nI n) (tw_f P) (tw_f K) (tw_f A) (tw_f Z) nu (tw_f W) dr pr f rc := by
  have h8 := hw.2.1
  have h1 := hw.1
  intro d
  induction d with
  | zero =>
    intro i h rc f hi' hh I
    have eh : h = 0 := by omega
    subst eh
    refine br_t (nI_le (a := 8) (by omega) (by omega)) ⟨vs - 1 + 1, ?_⟩
    exact tw_xdn hr hw hv I hp (vs - 1) 1 f (by omega) (by omega) (tw_dn_0 I)
  | succ d ih =>
    intro i h rc f hi' hh I
    refine br_f (nI_ge (b := 8) (by omega) (by omega)) ?_
    by_cases h0 : h = 0
    · subst h0
      refine br_t (Int32.le_refl _) ⟨vs - 1 + 1, ?_⟩
      exact tw_xdn hr hw hv I hp (vs - 1) 1 f (by omega) (by omega) (tw_dn_0 I)
    · have hv' := I.1
      have hq := hw.2.2.2 h (by omega) (by omega)
      refine br_f (nI_nle (by omega) (by omega)) (tw_xfc hr (by omega) hq.1 hq.2 (fun f' G => ?_))
      simp (disch := omega) only [tw_X, forall_eq, nI_clamp, tw_f, tw_in, true_and, nI_1, tw_b1]
      exact ih (i + 1) (P h) _ f' (by omega) (by omega) (tw_up_s hw hv (by omega) I G)
theorem tw_xsp0 {r v : Nat} (hr : r ≤ 100) (hw : tw_wf vs P K A Z W) (hv : v < vs)
    (hp : ∀ f' rc', tw_path vs v P rc' → tw_fin vs v P K A Z W nu b rc' (tw_V (r * 40) ce) (tw_V (r * 40) f') → (∀ j, j < r * 40 ∨ r * 40 + 40 ≤ j → f' j = ce j) → post (tw_X vs n P K A Z W nu dr pr f' rc')) :
    ∀ d i rc, i + d = 8 → (∀ w, w < i → rc w = 0) → wX_spread_3 post (nI r) (nI v) (tw_b b) (nI vs) (nI n) (d + 1) (nI i) (tw_f P) (tw_f K) (tw_f A) (tw_f Z) nu (tw_f W) dr pr ce rc := by
  have h8 := hw.2.1
  intro d
  induction d with
  | zero =>
    intro i rc hi' I
    have ei : i = 8 := by omega
    subst ei
    refine br_t (Int32.le_refl _) ⟨vp_in_nI (by omega) (by omega), nm_r (e' := upd rc v 1) (by rw [nI_clamp (by omega), tw_b1]) ⟨9, ?_⟩⟩
    refine tw_xup hr hw hv hp 8 0 v _ ce rfl (by omega) (tw_up_0 (fun w hw' => ?_) hv)
    by_cases e : w = v
    · rw [e, pk_us, if_pos rfl]
    · rw [pk_un e, if_neg e]; exact I w (by omega)
  | succ d ih =>
    intro i rc hi' I
    refine br_f (nI_ge (b := 8) (by omega) (by omega)) ⟨vp_in_nI (by omega) (by omega), nm_r (e' := upd rc i 0) (by rw [nI_clamp (by omega), tw_b0]) (nm_r (nI_1 i) ?_)⟩
    refine ih (i + 1) _ (by omega) (fun w hw' => ?_)
    by_cases e : w = i
    · rw [e, pk_us]
    · rw [pk_un e]; exact I w (by omega)
theorem tw_xsp {r v : Nat} (hr : r ≤ 100) (hw : tw_wf vs P K A Z W) (hv : v < vs)
    (hp : ∀ f' rc', tw_path vs v P rc' → tw_fin vs v P K A Z W nu b rc' (tw_V (r * 40) ce) (tw_V (r * 40) f') → (∀ j, j < r * 40 ∨ r * 40 + 40 ≤ j → f' j = ce j) → post (tw_X vs n P K A Z W nu dr pr f' rc')) :
    wpX_spread post (tw_X vs n P K A Z W nu dr pr ce rc) (nI r) (nI v) (tw_b b) :=
  ⟨9, tw_xsp0 hr hw hv hp 8 0 rc rfl (fun w h => absurd h (Nat.not_lt_zero _))⟩
/-! fillVersion -/
def tw_fl (P K A Z W : Nat → Nat) (nu pr ce : Nat → Int32) (w i : Nat) (f : Nat → Int32) : Prop :=
  (∀ k, k < i → pr k ≠ 0 → ∀ c, c < W w → f (k * 40 + w * 5 + c) = tw_td (K w) (A w) (Z w) (nu w) (W w) true (fun c => ce (k * 40 + P w * 5 + c)) (fun c => ce (k * 40 + w * 5 + c)) c) ∧ (∀ k, i ≤ k → ∀ j, j < 40 → f (k * 40 + j) = ce (k * 40 + j)) ∧ (∀ k v, v < 8 → v ≠ w → ∀ c, c < 5 → f (k * 40 + v * 5 + c) = ce (k * 40 + v * 5 + c))
theorem tw_fl_s {w i : Nat} {f f' : Nat → Int32} (hw : w < 8) (hP : P w < w) (ok : tw_ok (K w) (A w) (Z w) (W (P w)) (W w)) (I : tw_fl P K A Z W nu pr ce w i f)
    (G : tw_G f f' (i * 40 + w * 5) (W w) (tw_td (K w) (A w) (Z w) (nu w) (W w) true (fun c => f (i * 40 + P w * 5 + c)) (fun c => f (i * 40 + w * 5 + c)))) : tw_fl P K A Z W nu pr ce w (i + 1) f' := by
  obtain ⟨a1, a2, a3⟩ := I
  have ok' := ok
  unfold tw_ok at ok'
  refine ⟨fun k hk hn c hc => ?_, fun k hk j hj => ?_, fun k v hv hne c hc => ?_⟩
  · by_cases e : k = i
    · subst e
      refine (G.1 c hc).trans (tw_td_c ok (fun c hc => ?_) (fun q => absurd q (by decide)) c hc)
      have := a2 k (Nat.le_refl _) (P w * 5 + c) (by omega)
      rw [← Nat.add_assoc] at this; exact this
    · rw [G.2 _ (by omega)]; exact a1 k (by omega) hn c hc
  · rw [G.2 _ (by omega)]; exact a2 k (by omega) j hj
  · rw [G.2 _ (by omega)]; exact a3 k v hv hne c hc
theorem tw_xfl {w : Nat} (hw : w < 8) (hP : P w < w) (ok : tw_ok (K w) (A w) (Z w) (W (P w)) (W w))
    (hp : ∀ f', tw_fl P K A Z W nu pr ce w 100 f' → post (tw_X vs n P K A Z W nu dr pr f' rc)) :
    ∀ d i f, i + d = 100 → tw_fl P K A Z W nu pr ce w i f → wX_fillVersion_2 post (nI w) (d + 1) (nI i) (nI vs) (nI n) (tw_f P) (tw_f K) (tw_f A) (tw_f Z) nu (tw_f W) dr pr f rc := by
  intro d
  induction d with
  | zero =>
    intro i f hi' I
    have ei : i = 100 := by omega
    subst ei
    exact br_t (Int32.le_refl _) (hp _ I)
  | succ d ih =>
    intro i f hi' I
    refine br_f (nI_ge (b := 100) (by omega) (by omega)) ⟨vp_in_nI (by omega) (by omega), ?_⟩
    rw [nI_clamp (by omega)]
    refine br_c (fun e => nm_r (nI_1 i) ?_) (fun e => ?_)
    · refine ih (i + 1) f (by omega) ⟨fun k hk hn c hc => ?_, fun k hk => I.2.1 k (by omega), I.2.2⟩
      by_cases q : k = i
      · subst q; exact absurd e hn
      · exact I.1 k (by omega) hn c hc
    · refine tw_xfp (b := true) (by omega) hw hP ok (fun f' G => ?_)
      refine nm_r (nI_1 i) ?_
      exact ih (i + 1) f' (by omega) (tw_fl_s hw hP ok I G)
theorem tw_xfv {w : Nat} (hw : w < 8) (hP : P w < w) (ok : tw_ok (K w) (A w) (Z w) (W (P w)) (W w))
    (hp : ∀ f', tw_fl P K A Z W nu pr ce w 100 f' → post (tw_X vs n P K A Z W nu dr pr f' rc)) : wpX_fillVersion post (tw_X vs n P K A Z W nu dr pr ce rc) (nI w) :=
  ⟨101, tw_xfl hw hP ok hp 100 0 ce rfl ⟨fun k h => absurd h (Nat.not_lt_zero _), fun _ _ _ _ => rfl, fun _ _ _ _ _ _ => rfl⟩⟩
end
end
section
/-! SchemaTwins: the reference's small methods -/
section
variable {vs n : Nat} {P K A Z W KY : Nat → Nat} {nu dr ky va kn : Nat → Int32} {post : Int32 → Prop}
theorem tw_yin1 {a m : Nat} (ha : a < m) (hm : m < 2 ^ 31) (h : post 1) : wpY_in post (tw_S vs n P K A Z W nu ky va dr kn) (nI a) 0 (nI (m - 1)) :=
  br_f (nI_pos (by omega)) (br_f (nI_nlt (a := m - 1) (b := a) (by omega) (by omega)) h)
theorem tw_yin0 {x : Int32} {m : Nat} (h0 : 0 < m) (hm : m < 2 ^ 31) (hx : ¬ ∃ a, a < m ∧ x = nI a) (h : post 0) : wpY_in post (tw_S vs n P K A Z W nu ky va dr kn) x 0 (nI (m - 1)) := by
  rcases tw_lt x (n := m) hm with ⟨j, hj, e, _⟩ | ⟨a, _⟩ | ⟨a, b, c, d⟩
  · exact absurd ⟨j, hj, e⟩ hx
  · exact br_t a h
  · exact br_f a (br_t (Int32.lt_of_lt_of_le (nI_lt (a := m - 1) (b := m) (by omega) hm) c) h)
theorem tw_yV1 {v : Nat} (hv : v < vs) (h8 : vs ≤ 8) (h : post 1) : wpY_isVersion post (tw_S vs n P K A Z W nu ky va dr kn) (nI v) := by
  unfold wpY_isVersion
  simp only [tw_S]
  have e : nI vs - 1 = nI (vs - 1) := pk_sub (b := 1) (by omega)
  rw [e]
  exact tw_yin1 hv (by omega) ⟨rfl, h⟩
theorem tw_yV0 {x : Int32} (h1 : 1 ≤ vs) (h8 : vs ≤ 8) (hx : ¬ ∃ v, v < vs ∧ x = nI v) (h : post 0) : wpY_isVersion post (tw_S vs n P K A Z W nu ky va dr kn) x := by
  unfold wpY_isVersion
  simp only [tw_S]
  have e : nI vs - 1 = nI (vs - 1) := pk_sub (b := 1) (by omega)
  rw [e]
  exact tw_yin0 (by omega) (by omega) hx ⟨rfl, h⟩
theorem tw_yC1 {v c : Nat} (hv : v < 8) (hc : c < W v) (hW : W v ≤ 5) (h : post 1) : wpY_in post (tw_S vs n P K A Z W nu ky va dr kn) (nI c) 0 (tw_f W (nI v).toNatClampNeg - 1) := by
  have e : tw_f W v - 1 = nI (W v - 1) := pk_sub (b := 1) (by omega)
  rw [nI_clamp (by omega), e]
  exact tw_yin1 hc (by omega) h
theorem tw_yC0 {v : Nat} {x : Int32} (hv : v < 8) (h1 : 1 ≤ W v) (hW : W v ≤ 5) (hx : ¬ ∃ c, c < W v ∧ x = nI c) (h : post 0) : wpY_in post (tw_S vs n P K A Z W nu ky va dr kn) x 0 (tw_f W (nI v).toNatClampNeg - 1) := by
  have e : tw_f W v - 1 = nI (W v - 1) := pk_sub (b := 1) (by omega)
  rw [nI_clamp (by omega), e]
  exact tw_yin0 (by omega) (by omega) hx h
theorem tw_ypsl {r : Nat} (hr : r ≤ 12) (hw : tw_wf vs P K A Z W) : ∀ d i w, i + d = 8 → w < vs → post (tw_b (tw_ps P K A nu (tw_Y (40 * r) va) d w)) → wY_isShown_5 post (nI r) (nI vs) (nI n) (tw_f P) (tw_f K) (tw_f A) (tw_f Z) nu (tw_f W) ky va dr kn (d + 1) (nI w) (nI i) := by
  intro d
  induction d with
  | zero =>
    intro i w hi hv h
    exact br_t (nI_le (a := 8) (by omega) (by omega)) h
  | succ d ih =>
    intro i w hi hv h
    have h8 := hw.2.1
    refine br_f (nI_ge (b := 8) (by omega) (by omega)) ?_
    by_cases w0 : w = 0
    · subst w0
      exact br_t (Int32.le_refl _) h
    · have hq := hw.2.2.2 w (by omega) hv
      have ok := hq.2
      unfold tw_ok at ok
      have c : (nI w).toNatClampNeg = w := nI_clamp (by omega)
      have i8 : vp_in (nI w) 8 := vp_in_nI (by omega) (by omega)
      have e1 : tw_ps P K A nu (tw_Y (40 * r) va) (d + 1) w = if K w = 3 ∧ tw_Y (40 * r) va w (A w) < nu w then false else tw_ps P K A nu (tw_Y (40 * r) va) d (P w) := if_neg w0
      rw [e1] at h
      refine br_f (nI_nle (by omega) (by omega)) ⟨i8, ?_⟩
      simp (disch := omega) only [c, forall_eq, tw_f, tw_in, true_and, nI_1]
      refine pk_eq (K w) 3 (fun e => ?_) (fun e => ?_)
      · have hx : A w < 5 := by omega
        simp (disch := omega) only [tw_cY, nI_add, nI_clamp, tw_in, true_and]
        refine br_c (fun g => ?_) (fun g => ?_)
        · have nq : ¬ (K w = 3 ∧ tw_Y (40 * r) va w (A w) < nu w) := fun q => absurd g (Int32.not_le.mpr q.2)
          rw [if_neg nq] at h
          exact ih (i + 1) (P w) (by omega) (by omega) h
        · rw [if_pos ⟨e, Int32.not_le.mp g⟩] at h
          exact h
      · have nq : ¬ (K w = 3 ∧ tw_Y (40 * r) va w (A w) < nu w) := fun q => e q.1
        rw [if_neg nq] at h
        exact ih (i + 1) (P w) (by omega) (by omega) h
theorem tw_yps {r v : Nat} (hr : r ≤ 12) (hw : tw_wf vs P K A Z W) (hv : v < vs) (h : post (tw_b (tw_ps P K A nu (tw_Y (40 * r) va) 8 v))) : wpY_isShown post (tw_S vs n P K A Z W nu ky va dr kn) (nI r) (nI v) := ⟨9, tw_ypsl hr hw 8 0 v rfl hv h⟩
theorem tw_yfl {x : Int32} (hn : n ≤ 12) (h0 : (∀ r, r < n → ky r ≠ x) → post (-1)) (h1 : ∀ r, r < n → ky r = x → post (nI r)) : ∀ d i, i + d = n → (∀ r, r < i → ky r ≠ x) → wY_find_2 post x (nI vs) (nI n) (tw_f P) (tw_f K) (tw_f A) (tw_f Z) nu (tw_f W) ky va dr kn (d + 1) (nI i) := by
  intro d
  induction d with
  | zero =>
    intro i hi I
    have ei : i = n := by omega
    subst ei
    exact br_t (Int32.le_refl _) (h0 I)
  | succ d ih =>
    intro i hi I
    refine br_f (nI_ge (by omega) (by omega)) ⟨vp_in_nI (by omega) (by omega), ?_⟩
    rw [nI_clamp (by omega)]
    refine br_c (fun e => h1 i (by omega) e) (fun e => nm_r (nI_1 i) (ih (i + 1) (by omega) (fun r hr => ?_)))
    by_cases q : r = i
    · rw [q]; exact e
    · exact I r (by omega)
theorem tw_yfi {x : Int32} (hn : n ≤ 12) (h0 : (∀ r, r < n → ky r ≠ x) → post (-1)) (h1 : ∀ r, r < n → ky r = x → post (nI r)) : wpY_find post (tw_S vs n P K A Z W nu ky va dr kn) x :=
  ⟨n + 1, tw_yfl hn h0 h1 n 0 (by omega) (fun r h => absurd h (Nat.not_lt_zero _))⟩
end
section
variable {vs n : Nat} {P K A Z W KY : Nat → Nat} {nu dr ky va kn : Nat → Int32} {post : SY → Prop}
theorem tw_ycpl {s t : Nat} (hs : s ≤ 12) (ht : t ≤ 12) (hd : s ≠ t) (hp : ∀ f', tw_I va (40 * t) (fun i => va (40 * s + i)) 40 f' → post (tw_S vs n P K A Z W nu ky f' dr kn)) :
    ∀ d i f, i + d = 40 → tw_I va (40 * t) (fun i => va (40 * s + i)) i f → wY_copy_2 post (nI t) (nI s) (nI vs) (nI n) (d + 1) (nI i) (tw_f P) (tw_f K) (tw_f A) (tw_f Z) nu (tw_f W) ky f dr kn := by
  intro d
  induction d with
  | zero =>
    intro i f hi' I
    have ei : i = 40 := by omega
    subst ei
    exact br_t (Int32.le_refl _) (hp _ I)
  | succ d ih =>
    intro i f hi' I
    refine br_f (nI_ge (b := 40) (by omega) (by omega)) ?_
    simp (disch := omega) only [forall_eq, tw_40, nI_add, nI_clamp, tw_in, true_and, nI_1]
    exact ih (i + 1) _ (by omega) (tw_I_s I (I.2 _ (by omega)))
theorem tw_ycp {s t : Nat} (hs : s ≤ 12) (ht : t ≤ 12) (hd : s ≠ t) (hp : ∀ f', tw_I va (40 * t) (fun i => va (40 * s + i)) 40 f' → post (tw_S vs n P K A Z W nu ky f' dr kn)) :
    wpY_copy post (tw_S vs n P K A Z W nu ky va dr kn) (nI t) (nI s) := ⟨41, tw_ycpl hs ht hd hp 40 0 _ rfl tw_I_0⟩
end
end
section
/-! SchemaTwins: the reference's two moves, its walks -/
section
variable {vs n : Nat} {P K A Z W KY : Nat → Nat} {nu dr ky va kn : Nat → Int32} {post : SY → Prop} {b : Bool}
theorem tw_ytc89 {J : Int32 → (Nat → Int32) → (Nat → Int32) → (Nat → Int32) → (Nat → Int32) → (Nat → Int32) → (Nat → Int32) → (Nat → Int32) → (Nat → Int32) → (Nat → Int32) → (Nat → Int32) → Prop} {w t s i : Nat} {f : Nat → Int32} {x3 x8 x9 : Int32} (hk : K w ≤ 5) (hx : A w < 8) (ht : t + 5 ≤ 520) (hs : s + 5 ≤ 520) (hi : i < 5) (h1 : K w = 1 → i < 4)
    (hJ : J (nI (i + 1)) (tw_f P) (tw_f K) (tw_f A) (tw_f Z) nu (tw_f W) ky (upd f (t + i) (f (s + if K w = 1 ∧ A w ≤ i then i + 1 else i))) dr kn) :
    wY_toChild_89 post J (nI w) x3 (nI t) (nI s) (nI (K w)) (nI (A w)) x8 x9 (nI i) (nI vs) (nI n) (tw_f P) (tw_f K) (tw_f A) (tw_f Z) nu (tw_f W) ky f dr kn := by
  refine tw_c0 (tw_c0 (pk_eq (K w) 1 (fun e => pk_lt i (A w) (fun g => ?_) (fun g => ?_)) (fun e => ?_)))
  · rw [if_neg (by omega)] at hJ
    simp (disch := omega) only [forall_eq, nI_add, nI_clamp, tw_in, true_and, nI_1]
    exact hJ
  · rw [if_pos (by omega)] at hJ
    have := h1 e
    simp (disch := omega) only [forall_eq, nI_1, nI_add, nI_clamp, tw_in, true_and]
    exact hJ
  · rw [if_neg (by omega)] at hJ
    simp (disch := omega) only [forall_eq, nI_add, nI_clamp, tw_in, true_and, nI_1]
    exact hJ
theorem tw_ytcl {w t s wp : Nat} (hw : w < 8) (ok : tw_ok (K w) (A w) (Z w) wp (W w)) (ht : t + 5 ≤ 520) (hs : s + 5 ≤ 520) (hd : s + 5 ≤ t ∨ t + 5 ≤ s)
    (hp : ∀ f', tw_G va f' t (W w) (tw_td (K w) (A w) (Z w) (nu w) (W w) b (fun c => va (s + c)) (fun c => va (t + c))) → post (tw_S vs n P K A Z W nu ky f' dr kn)) :
    ∀ d i f, i + d = W w → tw_I va t (tw_yd (K w) (A w) (W w) (nu w) b va t s) i f →
    wY_toChild_62 post (nI w) (tw_b b) (nI t) (nI s) (nI (K w)) (nI (A w)) (nI (Z w)) (nI (W w - 1)) (nI vs) (nI n) (d + 1) (nI i) (tw_f P) (tw_f K) (tw_f A) (tw_f Z) nu (tw_f W) ky f dr kn := by
  have ok' := ok
  unfold tw_ok at ok'
  have c : (nI w).toNatClampNeg = w := nI_clamp (by omega)
  have i8 : vp_in (nI w) 8 := vp_in_nI (by omega) (by omega)
  intro d
  induction d with
  | zero =>
    intro i f hi' I
    have ei : i = W w := by omega
    subst ei
    refine ⟨i8, ?_⟩
    simp only [c]
    refine br_t (Int32.le_refl _) (pk_eq (K w) 2 (fun e => ?_) (fun e2 => pk_eq (K w) 4 (fun e => ?_) (fun e4 => pk_eq (K w) 5 (fun e => ?_) (fun e5 => hp _ (tw_yd_n ok I e2 e4 e5)))))
    · simp (disch := omega) only [forall_eq, nI_add, nI_clamp, tw_in, true_and]
      exact pk_eq (K w) 4 (fun q => absurd q (by omega)) (fun _ => pk_eq (K w) 5 (fun q => absurd q (by omega)) (fun _ => hp _ (tw_yd_sk e ok hd I)))
    · simp (disch := omega) only [forall_eq, nI_add, nI_clamp, tw_in, true_and]
      exact pk_eq (K w) 5 (fun q => absurd q (by omega)) (fun _ => hp _ (tw_yd_4k e ok hd I))
    · simp (disch := omega) only [forall_eq, nI_add, nI_clamp, tw_in, true_and]
      exact hp _ (tw_yd_5k e ok hd I)
  | succ d ih =>
    intro i f hi' I
    have nf : ¬ (K w = 0 ∧ i + 1 = W w) → wY_toChild_89 post (wY_toChild_62 post (nI w) (tw_b b) (nI t) (nI s) (nI (K w)) (nI (A w)) (nI (Z w)) (nI (W w - 1)) (nI vs) (nI n) (d + 1)) (nI w) (tw_b b) (nI t) (nI s) (nI (K w)) (nI (A w)) (nI (Z w)) (nI (W w - 1)) (nI i) (nI vs) (nI n) (tw_f P) (tw_f K) (tw_f A) (tw_f Z) nu (tw_f W) ky f dr kn := by
      intro nfr
      refine tw_ytc89 (by omega) (by omega) ht hs (by omega) (by omega) (ih (i + 1) _ (by omega) (tw_I_s I ?_))
      unfold tw_yd
      rw [if_neg nfr]
      refine I.2 _ ?_
      split <;> omega
    refine ⟨i8, ?_⟩
    simp only [c]
    refine br_f (nI_ge (by omega) (by omega)) (pk_eq (K w) 0 (fun e => pk_eq i (W w - 1) (fun g => ?_) (fun g => nf (by omega))) (fun e => nf (by omega)))
    have fr : K w = 0 ∧ i + 1 = W w := by omega
    cases b
    · refine tw_c1 (tw_c0 (tw_c1 (nm_r (nI_1 i) (ih (i + 1) f (by omega) (tw_I_k I ?_)))))
      unfold tw_yd
      rw [if_pos fr]; rfl
    · refine tw_c1 (tw_c1 ?_)
      simp (disch := omega) only [forall_eq, nI_add, nI_clamp, tw_in, true_and]
      refine tw_c1 (nm_r (nI_1 i) (ih (i + 1) _ (by omega) (tw_I_s I ?_)))
      unfold tw_yd
      rw [if_pos fr]; rfl
theorem tw_ytc {r w : Nat} (hr : r ≤ 12) (hw : w < 8) (hP : P w < w) (ok : tw_ok (K w) (A w) (Z w) (W (P w)) (W w))
    (hp : ∀ f', tw_G va f' (40 * r + 5 * w) (W w) (tw_td (K w) (A w) (Z w) (nu w) (W w) b (fun c => va (40 * r + 5 * P w + c)) (fun c => va (40 * r + 5 * w + c))) → post (tw_S vs n P K A Z W nu ky f' dr kn)) :
    wpY_toChild post (tw_S vs n P K A Z W nu ky va dr kn) (nI r) (nI w) (tw_b b) := by
  have ok' := ok
  unfold tw_ok at ok'
  have e : nI (W w) - 1 = nI (W w - 1) := pk_sub (b := 1) (by omega)
  unfold wpY_toChild
  simp (disch := omega) only [tw_S, forall_eq, nI_clamp, tw_f, tw_in, true_and, tw_cY, e]
  exact ⟨W w + 1, tw_ytcl hw ok (by omega) (by omega) (by omega) hp _ 0 _ (by omega) tw_I_0⟩
theorem tw_ytp85 {J : Int32 → (Nat → Int32) → (Nat → Int32) → (Nat → Int32) → (Nat → Int32) → (Nat → Int32) → (Nat → Int32) → (Nat → Int32) → (Nat → Int32) → (Nat → Int32) → (Nat → Int32) → Prop} {w t s i : Nat} {f : Nat → Int32} {x3 x8 : Int32} (hk : K w ≤ 5) (hx : A w < 8) (ht : t + 5 ≤ 520) (hs : s + 5 ≤ 520) (hi : i < 5)
    (hJ : J (nI (i + 1)) (tw_f P) (tw_f K) (tw_f A) (tw_f Z) nu (tw_f W) ky (upd f (t + i) (f (s + if K w = 1 ∧ A w < i then i - 1 else i))) dr kn) :
    wY_toParent_85 post J (nI w) x3 (nI t) (nI s) (nI (K w)) (nI (A w)) x8 (nI i) (nI vs) (nI n) (tw_f P) (tw_f K) (tw_f A) (tw_f Z) nu (tw_f W) ky f dr kn := by
  refine tw_c0 (tw_c0 (pk_eq (K w) 1 (fun e => pk_le i (A w) (fun g => ?_) (fun g => ?_)) (fun e => ?_)))
  · rw [if_neg (by omega)] at hJ
    simp (disch := omega) only [forall_eq, nI_add, nI_clamp, tw_in, true_and, nI_1]
    exact hJ
  · rw [if_pos (by omega)] at hJ
    have q : nI i - 1 = nI (i - 1) := pk_sub (b := 1) (by omega)
    simp (disch := omega) only [forall_eq, q, nI_add, nI_clamp, tw_in, true_and, nI_1]
    exact hJ
  · rw [if_neg (by omega)] at hJ
    simp (disch := omega) only [forall_eq, nI_add, nI_clamp, tw_in, true_and, nI_1]
    exact hJ
theorem tw_ytpl {w t s : Nat} (hw : w < 8) (hP : P w < w) (ok : tw_ok (K w) (A w) (Z w) (W (P w)) (W w)) (ht : t + 5 ≤ 520) (hs : s + 5 ≤ 520) (hd : s + 5 ≤ t ∨ t + 5 ≤ s)
    (hp : ∀ f', tw_G va f' t (W (P w)) (tw_tp (K w) (A w) (Z w) (nu w) b (fun c => va (s + c)) (fun c => va (t + c))) → post (tw_S vs n P K A Z W nu ky f' dr kn)) :
    ∀ d i f, i + d = W (P w) → tw_I va t (tw_yu (K w) (A w) (nu w) b va t s) i f →
    wY_toParent_52 post (nI w) (tw_b b) (nI t) (nI s) (nI (K w)) (nI (A w)) (nI (Z w)) (nI vs) (nI n) (d + 1) (nI i) (tw_f P) (tw_f K) (tw_f A) (tw_f Z) nu (tw_f W) ky f dr kn := by
  have ok' := ok
  unfold tw_ok at ok'
  have c : (nI w).toNatClampNeg = w := nI_clamp (by omega)
  have c' : (nI (P w)).toNatClampNeg = P w := nI_clamp (by omega)
  have i8 : vp_in (nI w) 8 := vp_in_nI (by omega) (by omega)
  have p8 : vp_in (nI (P w)) 8 := vp_in_nI (by omega) (by omega)
  intro d
  induction d with
  | zero =>
    intro i f hi' I
    refine ⟨i8, ?_⟩
    simp only [c, tw_f, c']
    refine ⟨p8, br_t (nI_le (by omega) (by omega)) ?_⟩
    have ei : i = W (P w) := by omega
    rw [ei] at I
    refine pk_eq (K w) 2 (fun e => ?_) (fun e2 => pk_eq (K w) 4 (fun e => ?_) (fun e4 => pk_eq (K w) 5 (fun e => ?_) (fun e5 => hp _ (tw_yu_n ok I e2 e4 e5))))
    · simp (disch := omega) only [forall_eq, nI_add, nI_clamp, tw_in, true_and]
      exact pk_eq (K w) 4 (fun q => absurd q (by omega)) (fun _ => pk_eq (K w) 5 (fun q => absurd q (by omega)) (fun _ => hp _ (tw_yu_sk e ok hd I)))
    · simp (disch := omega) only [forall_eq, nI_add, nI_clamp, tw_in, true_and]
      exact pk_eq (K w) 5 (fun q => absurd q (by omega)) (fun _ => hp _ (tw_yu_4k e ok hd I))
    · simp (disch := omega) only [forall_eq, nI_add, nI_clamp, tw_in, true_and]
      exact hp _ (tw_yu_5k e ok hd I)
  | succ d ih =>
    intro i f hi' I
    have nf : ¬ (K w = 1 ∧ i = A w) → wY_toParent_85 post (wY_toParent_52 post (nI w) (tw_b b) (nI t) (nI s) (nI (K w)) (nI (A w)) (nI (Z w)) (nI vs) (nI n) (d + 1)) (nI w) (tw_b b) (nI t) (nI s) (nI (K w)) (nI (A w)) (nI (Z w)) (nI i) (nI vs) (nI n) (tw_f P) (tw_f K) (tw_f A) (tw_f Z) nu (tw_f W) ky f dr kn := by
      intro nfr
      refine tw_ytp85 (by omega) (by omega) ht hs (by omega) (ih (i + 1) _ (by omega) (tw_I_s I ?_))
      unfold tw_yu
      rw [if_neg nfr]
      refine I.2 _ ?_
      split <;> omega
    refine ⟨i8, ?_⟩
    simp only [c]
    have e0 : tw_f P w = nI (P w) := rfl
    rw [e0, c']
    refine ⟨p8, br_f (nI_ge (by omega) (by omega)) (pk_eq (K w) 1 (fun e => pk_eq i (A w) (fun g => ?_) (fun g => nf (by omega))) (fun e => nf (by omega)))⟩
    have fr : K w = 1 ∧ i = A w := by omega
    cases b
    · refine tw_c1 (tw_c0 (tw_c1 (nm_r (nI_1 i) (ih (i + 1) f (by omega) (tw_I_k I ?_)))))
      unfold tw_yu
      rw [if_pos fr]; rfl
    · refine tw_c1 (tw_c1 ?_)
      simp (disch := omega) only [forall_eq, nI_add, nI_clamp, tw_in, true_and]
      refine tw_c1 (nm_r (nI_1 i) (ih (i + 1) _ (by omega) (tw_I_s I ?_)))
      unfold tw_yu
      rw [if_pos fr]; rfl
theorem tw_ytp {r w : Nat} (hr : r ≤ 12) (hw : w < 8) (hP : P w < w) (ok : tw_ok (K w) (A w) (Z w) (W (P w)) (W w))
    (hp : ∀ f', tw_G va f' (40 * r + 5 * P w) (W (P w)) (tw_tp (K w) (A w) (Z w) (nu w) b (fun c => va (40 * r + 5 * w + c)) (fun c => va (40 * r + 5 * P w + c))) → post (tw_S vs n P K A Z W nu ky f' dr kn)) :
    wpY_toParent post (tw_S vs n P K A Z W nu ky va dr kn) (nI r) (nI w) (tw_b b) := by
  have ok' := ok
  unfold tw_ok at ok'
  unfold wpY_toParent
  simp (disch := omega) only [tw_S, forall_eq, nI_clamp, tw_f, tw_in, true_and, tw_cY]
  exact ⟨W (P w) + 1, tw_ytpl hw hP ok (by omega) (by omega) (by omega) hp _ 0 _ (by omega) tw_I_0⟩
end
end
section
/-! SchemaTwins: the reference's carry, towards the same row -/
section
variable {vs n : Nat} {P K A Z W KY : Nat → Nat} {nu dr ky va kn : Nat → Int32} {post : SY → Prop} {b : Bool}
theorem tw_yc47 {q v m j : Nat} {rc : Nat → Int32} {R : Nat → Nat → Int32} {J : Int32 → Int32 → Int32 → (Nat → Int32) → (Nat → Int32) → (Nat → Int32) → (Nat → Int32) → (Nat → Int32) → (Nat → Int32) → (Nat → Int32) → (Nat → Int32) → (Nat → Int32) → (Nat → Int32) → Prop} (hq12 : q ≤ 12) (hw : tw_wf vs P K A Z W) (hpa : tw_path vs v P rc) (hf : tw_fin vs v P K A Z W nu b rc (tw_Y (40 * q) va) R) (hm : m < vs)
    (hJ : ∀ f kn, tw_cy vs P W rc (tw_Y (40 * q) va) R kn (tw_Y (40 * q) f) → tw_ri vs P m vs kn → (∀ j, j < 40 * q ∨ 40 * q + 40 ≤ j → f j = va j) → J (nI (j + 1)) (nI vs) (nI n) (tw_f P) (tw_f K) (tw_f A) (tw_f Z) nu (tw_f W) ky f dr kn) :
    ∀ d i f kn, i + d = vs → 0 < i → tw_cy vs P W rc (tw_Y (40 * q) va) R kn (tw_Y (40 * q) f) → tw_ri vs P m i kn → (∀ j, j < 40 * q ∨ 40 * q + 40 ≤ j → f j = va j) →
    wY_carry_47 post J (nI q) (tw_b b) (nI j) (d + 1) (nI i) (nI vs) (nI n) (tw_f P) (tw_f K) (tw_f A) (tw_f Z) nu (tw_f W) ky f dr kn := by
  have h8 := hw.2.1
  intro d
  induction d with
  | zero =>
    intro i f kn hi' i0 I1 I2 I3
    have ei : i = vs := by omega
    subst ei
    exact br_t (Int32.le_refl _) (nm_r (nI_1 j) (hJ f kn I1 I2 I3))
  | succ d ih =>
    intro i f kn hi' i0 I1 I2 I3
    have hq := hw.2.2.2 i i0 (by omega)
    have hqP := hq.1
    have W5 : ∀ w, w < vs → ∀ c, c < W w → c < 5 := fun w hw' c hc => by have := (hw.2.2.1 w hw').2; omega
    have c : (nI i).toNatClampNeg = i := nI_clamp (by omega)
    have c' : (nI (P i)).toNatClampNeg = P i := nI_clamp (by omega)
    have i8 : vp_in (nI i) 8 := vp_in_nI (by omega) (by omega)
    have p8 : vp_in (nI (P i)) 8 := vp_in_nI (by omega) (by omega)
    refine br_f (nI_ge (by omega) (by omega)) ⟨i8, ?_⟩
    have e0 : tw_f P (nI i).toNatClampNeg = nI (P i) := by rw [c]; rfl
    rw [e0, c, c']
    refine ⟨p8, nm_e (br_c (fun kp => ?_) (fun kp => ⟨i8, br_c (fun ki => ?_) (fun ki => ?_)⟩))⟩
    · refine br_t kp ⟨i8, ?_⟩
      rw [c]
      refine br_c (fun ki => nm_r (nI_1 i) ?_) (fun ki => ?_)
      · refine ih (i + 1) f kn (by omega) (by omega) I1 (tw_ri_k I2 ?_ hqP) I3
        rw [kp, ki]
      · have k1 : kn i = 1 := by
          rcases I1.1 i (by omega) with z | z
          · exact absurd z ki
          · exact z
        refine tw_ytp (b := b) hq12 (by omega) hqP hq.2 (fun f' G => ?_)
        simp only [tw_S, c]
        rw [show tw_f P i = nI (P i) from rfl]
        refine ⟨i8, p8, nm_r (e' := upd kn (P i) 1) (by rw [c', tw_b1]) (nm_r (nI_1 i) ?_)⟩
        refine ih (i + 1) f' _ (by omega) (by omega) ?_ ?_ ?_
        · exact tw_cy_u hw hpa hf I1 i0 (by omega) kp k1 (fun c hc => G.1 c hc) (fun u hu hne c hc => tw_G_Y G hne (W5 u hu c hc))
        · refine tw_ri_s I2 ?_ pk_us
          rw [pk_un (by omega)]; exact k1
        · intro z hz
          rw [G.2 z (by omega)]; exact I3 z hz
    · have k1 : kn (P i) = 1 := by
        rcases I1.1 (P i) (by omega) with z | z
        · exact absurd z kp
        · exact z
      refine tw_ytc (b := b) hq12 (by omega) hqP hq.2 (fun f' G => ?_)
      simp only [tw_S, c]
      refine ⟨i8, nm_r (e' := upd kn i 1) (by rw [tw_b1]) (nm_r (nI_1 i) ?_)⟩
      refine ih (i + 1) f' _ (by omega) (by omega) ?_ ?_ ?_
      · exact tw_cy_d hw hpa hf I1 i0 (by omega) k1 ki (fun c hc => G.1 c hc) (fun u hu hne c hc => tw_G_Y G hne (W5 u hu c hc))
      · refine tw_ri_s I2 pk_us ?_
        rw [pk_un (by omega)]; exact k1
      · intro z hz
        rw [G.2 z (by omega)]; exact I3 z hz
    · have k1 : kn (P i) = 1 := by
        rcases I1.1 (P i) (by omega) with z | z
        · exact absurd z kp
        · exact z
      have k2 : kn i = 1 := by
        rcases I1.1 i (by omega) with z | z
        · exact absurd z ki
        · exact z
      refine br_f kp (nm_r (nI_1 i) ?_)
      refine ih (i + 1) f kn (by omega) (by omega) I1 (tw_ri_k I2 ?_ hqP) I3
      rw [k1, k2]
theorem tw_yc37 {q v : Nat} {rc : Nat → Int32} {R : Nat → Nat → Int32} (hq12 : q ≤ 12) (hw : tw_wf vs P K A Z W) (hpa : tw_path vs v P rc) (hf : tw_fin vs v P K A Z W nu b rc (tw_Y (40 * q) va) R)
    (hp : ∀ f kn, (∀ w, w < vs → ∀ c, c < W w → tw_Y (40 * q) f w c = R w c) → (∀ j, j < 40 * q ∨ 40 * q + 40 ≤ j → f j = va j) → post (tw_S vs n P K A Z W nu ky f dr kn)) :
    ∀ d j f kn, j + d = 8 → tw_cy vs P W rc (tw_Y (40 * q) va) R kn (tw_Y (40 * q) f) → tw_rd vs j kn → (∀ j, j < 40 * q ∨ 40 * q + 40 ≤ j → f j = va j) →
    wY_carry_37 post (nI q) (tw_b b) (d + 1) (nI j) (nI vs) (nI n) (tw_f P) (tw_f K) (tw_f A) (tw_f Z) nu (tw_f W) ky f dr kn := by
  have h8 := hw.2.1
  have h1 := hw.1
  intro d
  induction d with
  | zero =>
    intro j f kn hj I1 I2 I3
    have ej : j = 8 := by omega
    subst ej
    exact br_t (Int32.le_refl _) (hp f kn (fun w hw' c hc => I1.2.1 w hw' (I2.2 rfl w hw') c hc) I3)
  | succ d ih =>
    intro j f kn hj I1 I2 I3
    obtain ⟨⟨m, hm, km, hmj⟩, _⟩ := I2
    refine br_f (nI_ge (b := 8) (by omega) (by omega)) ⟨vs - 1 + 1, ?_⟩
    refine tw_yc47 hq12 hw hpa hf hm (fun f' kn' C1 C2 C3 => ?_) (vs - 1) 1 f kn (by omega) (by omega) I1 (tw_ri_0 km) I3
    exact ih (j + 1) f' kn' (by omega) C1 (tw_ri_e (fun w w0 w1 => (hw.2.2.2 w w0 w1).1) hm (by omega) hmj C2) C3
theorem tw_yc3 {q v : Nat} {rc : Nat → Int32} {R : Nat → Nat → Int32} (hq12 : q ≤ 12) (hw : tw_wf vs P K A Z W) (hv : v < vs) (hpa : tw_path vs v P rc) (hf : tw_fin vs v P K A Z W nu b rc (tw_Y (40 * q) va) R)
    (hp : ∀ f kn, (∀ w, w < vs → ∀ c, c < W w → tw_Y (40 * q) f w c = R w c) → (∀ j, j < 40 * q ∨ 40 * q + 40 ≤ j → f j = va j) → post (tw_S vs n P K A Z W nu ky f dr kn)) :
    ∀ d i kn, i + d = 8 → (∀ w, w < i → kn w = if w = v then 1 else 0) →
    wY_carry_3 post (nI q) (nI v) (tw_b b) (nI vs) (nI n) (d + 1) (nI i) (tw_f P) (tw_f K) (tw_f A) (tw_f Z) nu (tw_f W) ky va dr kn := by
  have h8 := hw.2.1
  intro d
  induction d with
  | zero =>
    intro i kn hi I
    have ei : i = 8 := by omega
    subst ei
    refine br_t (Int32.le_refl _) ⟨9, ?_⟩
    refine tw_yc37 hq12 hw hpa hf hp 8 0 va kn rfl ?_ ?_ (fun _ _ => rfl)
    · exact tw_cy_0 hpa hf (fun w hw' => I w (by omega)) (fun w w0 w1 => by have := (hw.2.2.2 w w0 w1).1; omega)
    · refine ⟨⟨v, hv, ?_, Or.inr (by omega)⟩, fun q => absurd q (by omega)⟩
      rw [I v (by omega), if_pos rfl]
  | succ d ih =>
    intro i kn hi I
    refine br_f (nI_ge (b := 8) (by omega) (by omega)) (pk_eq i v (fun e => ?_) (fun e => ?_))
    · refine ⟨vp_in_nI (by omega) (by omega), nm_r (e' := upd kn i 1) (by rw [nI_clamp (by omega), tw_b1]) (nm_r (nI_1 i) (ih (i + 1) _ (by omega) (fun w hw' => ?_)))⟩
      by_cases g : w = i
      · rw [g, pk_us, if_pos e]
      · rw [pk_un g]; exact I w (by omega)
    · refine ⟨vp_in_nI (by omega) (by omega), nm_r (e' := upd kn i 0) (by rw [nI_clamp (by omega), tw_b0]) (nm_r (nI_1 i) (ih (i + 1) _ (by omega) (fun w hw' => ?_)))⟩
      by_cases g : w = i
      · rw [g, pk_us, if_neg e]
      · rw [pk_un g]; exact I w (by omega)
theorem tw_yca {q v : Nat} {rc : Nat → Int32} {R : Nat → Nat → Int32} (hq12 : q ≤ 12) (hw : tw_wf vs P K A Z W) (hv : v < vs) (hpa : tw_path vs v P rc) (hf : tw_fin vs v P K A Z W nu b rc (tw_Y (40 * q) va) R)
    (hp : ∀ f kn, (∀ w, w < vs → ∀ c, c < W w → tw_Y (40 * q) f w c = R w c) → (∀ j, j < 40 * q ∨ 40 * q + 40 ≤ j → f j = va j) → post (tw_S vs n P K A Z W nu ky f dr kn)) :
    wpY_carry post (tw_S vs n P K A Z W nu ky va dr kn) (nI q) (nI v) (tw_b b) :=
  ⟨9, tw_yc3 hq12 hw hv hpa hf hp 8 0 kn rfl (fun w h => absurd h (Nat.not_lt_zero _))⟩
end
end
section
/-! SchemaTwins: the relation, and the owed statements of the methods that don't make rows or versions -/
/-- both sides have the same table of versions and the same draft; the component's rows by key are the reference's rows in ascending order -/
def i_Rel (_ : Nat) (u : SX) (v : SY) : Prop := ∃ (vs n : Nat) (P K A Z W KY : Nat → Nat) (nu dr pr ce rc ky va kn : Nat → Int32), u = tw_X vs n P K A Z W nu dr pr ce rc ∧ v = tw_S vs n P K A Z W nu ky va dr kn ∧ tw_wf vs P K A Z W ∧ tw_keys n KY pr ky ∧ tw_vals vs n W KY ce va
theorem i_up {k : Nat} {u : SX} {v : SY} (h : i_Rel k u v) : i_Rel (k + 5) u v := h
theorem i_vc0 : wpX_init (fun u => wpY_init (fun v => i_Rel 0 u v)) := by
  refine nm_r (e' := tw_f (tw_un (fun _ => 0) 0 2)) (tw_f_u (fun _ => 0) 0 2) (nm_r (e' := tw_f (tw_un (fun _ => 0) 0 2)) (tw_f_u (fun _ => 0) 0 2) ?_)
  refine ⟨1, 0, fun _ => 0, fun _ => 0, fun _ => 0, fun _ => 0, tw_un (fun _ => 0) 0 2, fun _ => 0, fun _ => 0, fun _ => 0, fun _ => 0, fun _ => 0, fun _ => 0, fun _ => 0, fun _ => 0, fun _ => 0, rfl, rfl, ?_, ?_, ?_⟩
  · refine ⟨Nat.le_refl _, by omega, fun w hw => ?_, fun w w0 w1 => absurd w0 (by omega)⟩
    have : w = 0 := by omega
    subst this
    rw [tw_un_s]; omega
  · exact ⟨by omega, fun r h => absurd h (Nat.not_lt_zero _), fun q r _ h => absurd h (Nat.not_lt_zero _), fun k _ => Or.inr ⟨rfl, fun r h => absurd h (Nat.not_lt_zero _)⟩⟩
  · exact fun r h => absurd h (Nat.not_lt_zero _)
theorem i_vc_retract {k : Nat} {u : SX} {v : SY} (I : i_Rel k u v) (hk : k + 5 ≤ 2560) : wpX_retract (fun r u' => wpY_retract (fun r' v' => r' = r ∧ i_Rel (k + 5) u' v') v) u := by
  obtain ⟨vs, n, P, K, A, Z, W, KY, nu, dr, pr, ce, rc, ky, va, kn, rfl, rfl, hw, hK, hV⟩ := I
  have h8 := hw.2.1
  have h1 := hw.1
  refine pk_eq vs 1 (fun e => pk_eq vs 1 (fun _ => ⟨rfl, vs, n, P, K, A, Z, W, KY, nu, dr, pr, ce, rc, ky, va, kn, rfl, rfl, hw, hK, hV⟩) (fun q => absurd e q)) (fun e => nm_r (e' := nI (vs - 1)) (pk_sub (b := 1) h1) (pk_eq vs 1 (fun q => absurd q e) (fun _ => nm_r (e' := nI (vs - 1)) (pk_sub (b := 1) h1) ⟨rfl, ?_⟩)))
  obtain ⟨m, rfl⟩ : ∃ m, vs = m + 1 := ⟨vs - 1, by omega⟩
  exact ⟨m, n, P, K, A, Z, W, KY, nu, dr, pr, ce, rc, ky, va, kn, rfl, rfl, tw_wf_r hw (by omega), hK, fun r hr w hw' c hc => hV r hr w (by omega) c hc⟩
theorem i_vc_columns {k : Nat} {u : SX} {v : SY} (I : i_Rel k u v) (hk : k + 5 ≤ 2560) (v1 : Int32) : wpX_columns (fun r => wpY_columns (fun r' => r' = r ∧ i_Rel (k + 5) u v) v v1) u v1 := by
  have I' : i_Rel (k + 5) u v := I
  obtain ⟨vs, n, P, K, A, Z, W, KY, nu, dr, pr, ce, rc, ky, va, kn, rfl, rfl, hw, hK, hV⟩ := I
  have h8 := hw.2.1
  have h1 := hw.1
  unfold wpX_columns
  dsimp only [tw_X]
  by_cases hv : ∃ v, v < vs ∧ v1 = nI v
  · obtain ⟨v, hv, rfl⟩ := hv
    refine tw_xV1 hv h8 ?_
    refine tw_c1 ⟨vp_in_nI (by omega) (by omega), ?_⟩
    unfold wpY_columns
    dsimp only [tw_S]
    refine tw_yV1 hv h8 ?_
    exact tw_c1 ⟨vp_in_nI (by omega) (by omega), rfl, I'⟩
  · refine tw_xV0 h8 hv ?_
    refine tw_c0 ?_
    unfold wpY_columns
    dsimp only [tw_S]
    refine tw_yV0 h1 h8 hv ?_
    exact tw_c0 ⟨rfl, I'⟩
theorem i_vc_home {k : Nat} {u : SX} {v : SY} (I : i_Rel k u v) (hk : k + 5 ≤ 2560) (v1 : Int32) : wpX_home (fun r => wpY_home (fun r' => r' = r ∧ i_Rel (k + 5) u v) v v1) u v1 := by
  have I' : i_Rel (k + 5) u v := I
  obtain ⟨vs, n, P, K, A, Z, W, KY, nu, dr, pr, ce, rc, ky, va, kn, rfl, rfl, hw, hK, hV⟩ := I
  have h8 := hw.2.1
  have h1 := hw.1
  unfold wpX_home
  dsimp only [tw_X]
  by_cases hv : ∃ v, v < vs ∧ v1 = nI v
  · obtain ⟨v, hv, rfl⟩ := hv
    refine tw_xV1 hv h8 ⟨rfl, ?_⟩
    unfold wpY_home
    dsimp only [tw_S]
    exact tw_yV1 hv h8 ⟨rfl, rfl, I'⟩
  · refine tw_xV0 h8 hv ⟨rfl, ?_⟩
    unfold wpY_home
    dsimp only [tw_S]
    exact tw_yV0 h1 h8 hv ⟨rfl, rfl, I'⟩
theorem i_vc_draft {k : Nat} {u : SX} {v : SY} (I : i_Rel k u v) (hk : k + 5 ≤ 2560) (v1 : Int32) (v2 : Int32) : wpX_draft (fun r u' => wpY_draft (fun r' v' => r' = r ∧ i_Rel (k + 5) u' v') v v1 v2) u v1 v2 := by
  obtain ⟨vs, n, P, K, A, Z, W, KY, nu, dr, pr, ce, rc, ky, va, kn, rfl, rfl, hw, hK, hV⟩ := I
  have I' : i_Rel (k + 5) (tw_X vs n P K A Z W nu dr pr ce rc) (tw_S vs n P K A Z W nu ky va dr kn) := ⟨vs, n, P, K, A, Z, W, KY, nu, dr, pr, ce, rc, ky, va, kn, rfl, rfl, hw, hK, hV⟩
  rcases tw_lt v1 (n := 5) (by omega) with ⟨j, hj, e, a1, a2, a3, a4⟩ | ⟨a, _⟩ | ⟨a, b, c, d⟩
  · subst e
    have i5 : vp_in (nI j) 5 := vp_in_nI (by omega) (by omega)
    refine br_f a1 (br_t a3 ⟨i5, nm_e ?_⟩)
    unfold wpY_draft
    dsimp only [tw_S]
    refine tw_yin1 (m := 5) hj (by omega) ?_
    exact tw_c1 ⟨i5, nm_e ⟨rfl, vs, n, P, K, A, Z, W, KY, nu, _, pr, ce, rc, ky, va, kn, rfl, rfl, hw, hK, hV⟩⟩
  · have nx : ¬ ∃ j, j < 5 ∧ v1 = nI j := by
      rintro ⟨j, hj, rfl⟩
      exact nI_pos (by omega) a
    refine br_t a ?_
    unfold wpY_draft
    dsimp only [tw_S]
    refine tw_yin0 (m := 5) (by omega) (by omega) nx ?_
    exact tw_c0 ⟨rfl, I'⟩
  · have nx : ¬ ∃ j, j < 5 ∧ v1 = nI j := by
      rintro ⟨j, hj, rfl⟩
      exact nI_ge hj (by omega) c
    refine br_f a (br_f d ?_)
    unfold wpY_draft
    dsimp only [tw_S]
    refine tw_yin0 (m := 5) (by omega) (by omega) nx ?_
    exact tw_c0 ⟨rfl, I'⟩
/-! rows, on both sides -/
section
variable {vs n : Nat} {P K A Z W KY : Nat → Nat} {nu dr pr ce rc ky va kn : Nat → Int32} {post : Int32 → Prop}
theorem tw_inj31 {a b : Nat} (ha : a < 100) (hb : b < 100) (h : nI a = nI b) : a = b := (nI_eq (by omega) (by omega)).mp h
theorem tw_fN {x : Int32} (hK : tw_keys n KY pr ky) (hx : ∀ r, r < n → x ≠ nI (KY r)) (h : post (-1)) : wpY_find post (tw_S vs n P K A Z W nu ky va dr kn) x :=
  tw_yfi hK.1 (fun _ => h) (fun r hr e => absurd (e.symm.trans (hK.2.1 r hr).1) (hx r hr))
theorem tw_fS {r : Nat} (hK : tw_keys n KY pr ky) (hr : r < n) (h : post (nI r)) : wpY_find post (tw_S vs n P K A Z W nu ky va dr kn) (nI (KY r)) := by
  refine tw_yfi hK.1 (fun q => absurd (hK.2.1 r hr).1 (q r hr)) (fun q hq e => ?_)
  have e2 : KY q = KY r := tw_inj31 (hK.2.1 q hq).2 (hK.2.1 r hr).2 ((hK.2.1 q hq).1.symm.trans e)
  rw [tw_inj hK.2.2.1 hq hr e2]; exact h
theorem tw_pr {r : Nat} (hK : tw_keys n KY pr ky) (hr : r < n) : pr (KY r) = 1 := by
  rcases hK.2.2.2 (KY r) (hK.2.1 r hr).2 with ⟨a, _⟩ | ⟨_, b⟩
  · exact a
  · exact absurd rfl (b r hr)
theorem tw_xshC {v r : Nat} (hw : tw_wf vs P K A Z W) (hK : tw_keys n KY pr ky) (hV : tw_vals vs n W KY ce va) (hv : v < vs) (hr : r < n) (h : post (tw_b (tw_ps P K A nu (tw_Y (40 * r) va) 8 v))) : wpX_isShown post (tw_X vs n P K A Z W nu dr pr ce rc) (nI v) (nI (KY r)) := by
  have e : tw_ps P K A nu (tw_V (KY r * 40) ce) 8 v = tw_ps P K A nu (tw_Y (40 * r) va) 8 v := tw_ps_c hw (fun w hw' c hc => hV r hr w hw' c hc) 8 v hv
  refine tw_xS (hK.2.1 r hr).2 hw hv (fun q => ?_) (fun _ => by rw [e]; exact h)
  rw [tw_pr hK hr] at q; exact absurd q tw_10
theorem tw_xshB {v : Nat} {y : Int32} (hw : tw_wf vs P K A Z W) (hK : tw_keys n KY pr ky) (hv : v < vs) (hy : ∀ r, r < n → y ≠ nI (KY r)) (h : post 0) : wpX_isShown post (tw_X vs n P K A Z W nu dr pr ce rc) (nI v) y := by
  by_cases hk : ∃ k, k < 100 ∧ y = nI k
  · obtain ⟨k, hk, rfl⟩ := hk
    refine tw_xS hk hw hv (fun _ => h) (fun q => ?_)
    rcases hK.2.2.2 k hk with ⟨_, r, hr, e⟩ | ⟨a, _⟩
    · exact absurd (by rw [e]) (hy r hr)
    · exact absurd a q
  · exact tw_xS0 hk h
theorem tw_yshA {x y : Int32} (h1 : 1 ≤ vs) (h8 : vs ≤ 8) (hn : n ≤ 12) (hx : ¬ ∃ v, v < vs ∧ x = nI v) (h : post 0) : wpY_shown post (tw_S vs n P K A Z W nu ky va dr kn) x y := by
  unfold wpY_shown
  dsimp only [tw_S]
  refine tw_yfi hn (fun _ => ?_) (fun _ _ _ => ?_)
  · refine tw_yV0 h1 h8 hx ?_
    exact tw_c0 h
  · refine tw_yV0 h1 h8 hx ?_
    exact tw_c0 h
theorem tw_m1 : (-1 : Int32) < 0 := by decide
theorem tw_yshB {v : Nat} {y : Int32} (h8 : vs ≤ 8) (hK : tw_keys n KY pr ky) (hv : v < vs) (hy : ∀ r, r < n → y ≠ nI (KY r)) (h : post 0) : wpY_shown post (tw_S vs n P K A Z W nu ky va dr kn) (nI v) y := by
  unfold wpY_shown
  dsimp only [tw_S]
  refine tw_fN hK hy ?_
  refine tw_yV1 hv h8 ?_
  exact tw_c1 (br_t tw_m1 h)
theorem tw_yshC {v r : Nat} (hw : tw_wf vs P K A Z W) (hK : tw_keys n KY pr ky) (hv : v < vs) (hr : r < n) (h : post (tw_b (tw_ps P K A nu (tw_Y (40 * r) va) 8 v))) : wpY_shown post (tw_S vs n P K A Z W nu ky va dr kn) (nI v) (nI (KY r)) := by
  have n12 := hK.1
  unfold wpY_shown
  dsimp only [tw_S]
  refine tw_fS hK hr ?_
  refine tw_yV1 hv hw.2.1 ?_
  refine tw_c1 (br_f (nI_pos (by omega)) ?_)
  refine tw_yps (by omega) hw hv ?_
  cases e : tw_ps P K A nu (tw_Y (40 * r) va) 8 v
  · rw [e] at h; exact tw_c0 h
  · rw [e] at h; exact tw_c1 h
end
theorem i_vc_shown {k : Nat} {u : SX} {v : SY} (I : i_Rel k u v) (hk : k + 5 ≤ 2560) (v1 : Int32) (v2 : Int32) : wpX_shown (fun r => wpY_shown (fun r' => r' = r ∧ i_Rel (k + 5) u v) v v1 v2) u v1 v2 := by
  have I' : i_Rel (k + 5) u v := I
  obtain ⟨vs, n, P, K, A, Z, W, KY, nu, dr, pr, ce, rc, ky, va, kn, rfl, rfl, hw, hK, hV⟩ := I
  have h8 := hw.2.1
  have h1 := hw.1
  unfold wpX_shown
  dsimp only [tw_X]
  by_cases hv : ∃ v, v < vs ∧ v1 = nI v
  · obtain ⟨v, hv, rfl⟩ := hv
    refine tw_xV1 hv h8 ?_
    refine tw_c1 ?_
    by_cases hy : ∃ r, r < n ∧ v2 = nI (KY r)
    · obtain ⟨r, hr, rfl⟩ := hy
      refine tw_xshC hw hK hV hv hr ?_
      cases e : tw_ps P K A nu (tw_Y (40 * r) va) 8 v
      · exact tw_c0 (tw_yshC hw hK hv hr (by rw [e]; exact ⟨rfl, I'⟩))
      · exact tw_c1 (tw_yshC hw hK hv hr (by rw [e]; exact ⟨rfl, I'⟩))
    · have ny : ∀ r, r < n → v2 ≠ nI (KY r) := fun r hr e => hy ⟨r, hr, e⟩
      refine tw_xshB hw hK hv ny ?_
      exact tw_c0 (tw_yshB h8 hK hv ny ⟨rfl, I'⟩)
  · refine tw_xV0 h8 hv ?_
    exact tw_c0 (tw_yshA h1 h8 hK.1 hv ⟨rfl, I'⟩)
end
section
/-! SchemaTwins: value, count, sum, key, delete -/
theorem i_vc_value {k : Nat} {u : SX} {v : SY} (I : i_Rel k u v) (hk : k + 5 ≤ 2560) (v1 : Int32) (v2 : Int32) (v3 : Int32) : wpX_value (fun r => wpY_value (fun r' => r' = r ∧ i_Rel (k + 5) u v) v v1 v2 v3) u v1 v2 v3 := by
  have I' : i_Rel (k + 5) u v := I
  obtain ⟨vs, n, P, K, A, Z, W, KY, nu, dr, pr, ce, rc, ky, va, kn, rfl, rfl, hw, hK, hV⟩ := I
  have h8 := hw.2.1
  have h1 := hw.1
  have n12 := hK.1
  have hW : ∀ v, v < vs → W v ≤ 5 := fun v hv => (hw.2.2.1 v hv).2
  unfold wpX_value
  dsimp only [tw_X]
  by_cases hv : ∃ v, v < vs ∧ v1 = nI v
  · obtain ⟨v, hv, rfl⟩ := hv
    have h5 := hw.2.2.1 v hv
    by_cases hc : ∃ c, c < W v ∧ v3 = nI c
    · obtain ⟨c, hc, rfl⟩ := hc
      refine tw_xC1 hv h8 hc (hW v hv) ?_
      refine tw_c1 ?_
      by_cases hy : ∃ r, r < n ∧ v2 = nI (KY r)
      · obtain ⟨r, hr, rfl⟩ := hy
        have k100 := (hK.2.1 r hr).2
        refine tw_xshC hw hK hV hv hr ?_
        cases e : tw_ps P K A nu (tw_Y (40 * r) va) 8 v
        · refine tw_c0 ?_
          unfold wpY_value
          dsimp only [tw_S]
          refine tw_yshC hw hK hv hr ?_
          rw [e]
          exact tw_c0 ⟨rfl, I'⟩
        · refine tw_c1 (tw_xcb ?_)
          simp (disch := omega) only [nI_add, nI_clamp, tw_in, true_and]
          unfold wpY_value
          dsimp only [tw_S]
          refine tw_yshC hw hK hv hr ?_
          rw [e]
          refine tw_c1 ⟨vp_in_nI (by omega) (by omega), ?_⟩
          refine tw_yC1 (by omega) hc (hW v hv) ?_
          refine tw_c1 ?_
          refine tw_fS hK hr ?_
          simp (disch := omega) only [tw_cY, nI_add, nI_clamp, tw_in, true_and]
          exact ⟨(hV r hr v hv c hc).symm, I'⟩
      · have ny : ∀ r, r < n → v2 ≠ nI (KY r) := fun r hr e => hy ⟨r, hr, e⟩
        refine tw_xshB hw hK hv ny ?_
        refine tw_c0 ?_
        unfold wpY_value
        dsimp only [tw_S]
        refine tw_yshB h8 hK hv ny ?_
        exact tw_c0 ⟨rfl, I'⟩
    · have nc : ¬ ∃ w, w < vs ∧ nI v = nI w ∧ ∃ c, c < W w ∧ v3 = nI c := by
        rintro ⟨w, hw', e, h⟩
        rw [(nI_eq (by omega) (by omega)).mp e] at hc
        exact hc h
      refine tw_xC0 h8 hW nc ?_
      refine tw_c0 ?_
      unfold wpY_value
      dsimp only [tw_S]
      by_cases hy : ∃ r, r < n ∧ v2 = nI (KY r)
      · obtain ⟨r, hr, rfl⟩ := hy
        refine tw_yshC hw hK hv hr ?_
        cases e : tw_ps P K A nu (tw_Y (40 * r) va) 8 v
        · exact tw_c0 ⟨rfl, I'⟩
        · refine tw_c1 ⟨vp_in_nI (by omega) (by omega), ?_⟩
          refine tw_yC0 (by omega) h5.1 h5.2 hc ?_
          exact tw_c0 ⟨rfl, I'⟩
      · have ny : ∀ r, r < n → v2 ≠ nI (KY r) := fun r hr e => hy ⟨r, hr, e⟩
        refine tw_yshB h8 hK hv ny ?_
        exact tw_c0 ⟨rfl, I'⟩
  · have nc : ¬ ∃ w, w < vs ∧ v1 = nI w ∧ ∃ c, c < W w ∧ v3 = nI c := fun ⟨w, hw', e, _⟩ => hv ⟨w, hw', e⟩
    refine tw_xC0 h8 hW nc ?_
    refine tw_c0 ?_
    unfold wpY_value
    dsimp only [tw_S]
    refine tw_yshA h1 h8 hK.1 hv ?_
    exact tw_c0 ⟨rfl, I'⟩
section
variable {vs n : Nat} {P K A Z W KY : Nat → Nat} {nu dr pr ce rc ky va kn : Nat → Int32} {post : Int32 → Prop}
theorem tw_nk {k : Nat} (hK : tw_keys n KY pr ky) (hk : k < 100) (h : ∀ q, q < n → KY q ≠ k) : ∀ r, r < n → nI k ≠ nI (KY r) := fun r hr e => h r hr (tw_inj31 (hK.2.1 r hr).2 hk e.symm)
theorem tw_xcnt {v : Nat} (hw : tw_wf vs P K A Z W) (hK : tw_keys n KY pr ky) (hV : tw_vals vs n W KY ce va) (hv : v < vs) (h : post (tw_sum (fun r => tw_ps P K A nu (tw_Y (40 * r) va) 8 v) (fun _ => 1) n)) :
    ∀ d k r, k + d = 100 → tw_at n KY k r → wX_count_14 post (nI v) (nI vs) (nI n) (tw_f P) (tw_f K) (tw_f A) (tw_f Z) nu (tw_f W) dr pr ce rc (d + 1) (tw_sum (fun r => tw_ps P K A nu (tw_Y (40 * r) va) 8 v) (fun _ => 1) r) (nI k) := by
  intro d
  induction d with
  | zero =>
    intro k r hk ha
    have ek : k = 100 := by omega
    subst ek
    rw [tw_at_e ha (fun q hq => (hK.2.1 q hq).2)]
    exact br_t (Int32.le_refl _) h
  | succ d ih =>
    intro k r hk ha
    refine br_f (nI_ge (b := 100) (by omega) (by omega)) ?_
    by_cases hy : ∃ q, q < n ∧ KY q = k
    · obtain ⟨q, hq, rfl⟩ := hy
      obtain ⟨rfl, ha2⟩ := tw_at_s ha hK.2.2.1 hq rfl
      refine tw_xshC hw hK hV hv hq ?_
      have i2 := ih (KY q + 1) (q + 1) (by omega) ha2
      have e1 : tw_sum (fun r => tw_ps P K A nu (tw_Y (40 * r) va) 8 v) (fun _ => 1) (q + 1) = if tw_ps P K A nu (tw_Y (40 * q) va) 8 v = true then tw_sum (fun r => tw_ps P K A nu (tw_Y (40 * r) va) 8 v) (fun _ => 1) q + 1 else tw_sum (fun r => tw_ps P K A nu (tw_Y (40 * r) va) 8 v) (fun _ => 1) q := rfl
      cases e : tw_ps P K A nu (tw_Y (40 * q) va) 8 v
      · rw [e1, e, if_neg (by decide)] at i2
        exact tw_c0 (nm_r (nI_1 _) i2)
      · rw [e1, e, if_pos rfl] at i2
        exact tw_c1 (nm_e (nm_r (nI_1 _) i2))
    · have ny : ∀ q, q < n → KY q ≠ k := fun q hq e => hy ⟨q, hq, e⟩
      refine tw_xshB hw hK hv (tw_nk hK (by omega) ny) ?_
      exact tw_c0 (nm_r (nI_1 _) (ih (k + 1) r (by omega) (tw_at_n ha ny)))
theorem tw_ycnt {v : Nat} (hw : tw_wf vs P K A Z W) (hn : n ≤ 12) (hv : v < vs) (h : post (tw_sum (fun r => tw_ps P K A nu (tw_Y (40 * r) va) 8 v) (fun _ => 1) n)) :
    ∀ d r, r + d = n → wY_count_14 post (nI v) (nI vs) (nI n) (tw_f P) (tw_f K) (tw_f A) (tw_f Z) nu (tw_f W) ky va dr kn (d + 1) (tw_sum (fun r => tw_ps P K A nu (tw_Y (40 * r) va) 8 v) (fun _ => 1) r) (nI r) := by
  intro d
  induction d with
  | zero =>
    intro r hr
    have er : r = n := by omega
    subst er
    exact br_t (Int32.le_refl _) h
  | succ d ih =>
    intro q hr
    refine br_f (nI_ge (by omega) (by omega)) ?_
    refine tw_yps (by omega) hw hv ?_
    have i2 := ih (q + 1) (by omega)
    have e1 : tw_sum (fun r => tw_ps P K A nu (tw_Y (40 * r) va) 8 v) (fun _ => 1) (q + 1) = if tw_ps P K A nu (tw_Y (40 * q) va) 8 v = true then tw_sum (fun r => tw_ps P K A nu (tw_Y (40 * r) va) 8 v) (fun _ => 1) q + 1 else tw_sum (fun r => tw_ps P K A nu (tw_Y (40 * r) va) 8 v) (fun _ => 1) q := rfl
    cases e : tw_ps P K A nu (tw_Y (40 * q) va) 8 v
    · rw [e1, e, if_neg (by decide)] at i2
      exact tw_c0 (nm_r (nI_1 _) i2)
    · rw [e1, e, if_pos rfl] at i2
      exact tw_c1 (nm_e (nm_r (nI_1 _) i2))
theorem tw_xsum {v c : Nat} (hw : tw_wf vs P K A Z W) (hK : tw_keys n KY pr ky) (hV : tw_vals vs n W KY ce va) (hv : v < vs) (hc : c < W v) (h : post (tw_sum (fun r => tw_ps P K A nu (tw_Y (40 * r) va) 8 v) (fun r => va (40 * r + 5 * v + c)) n)) :
    ∀ d k r, k + d = 100 → tw_at n KY k r → wX_sum_16 post (nI v) (nI c) (nI vs) (nI n) (tw_f P) (tw_f K) (tw_f A) (tw_f Z) nu (tw_f W) dr pr ce rc (d + 1) (tw_sum (fun r => tw_ps P K A nu (tw_Y (40 * r) va) 8 v) (fun r => va (40 * r + 5 * v + c)) r) (nI k) := by
  have h8 := hw.2.1
  have h5 := (hw.2.2.1 v hv).2
  intro d
  induction d with
  | zero =>
    intro k r hk ha
    have ek : k = 100 := by omega
    subst ek
    rw [tw_at_e ha (fun q hq => (hK.2.1 q hq).2)]
    exact br_t (Int32.le_refl _) h
  | succ d ih =>
    intro k r hk ha
    refine br_f (nI_ge (b := 100) (by omega) (by omega)) ?_
    by_cases hy : ∃ q, q < n ∧ KY q = k
    · obtain ⟨q, hq, rfl⟩ := hy
      obtain ⟨rfl, ha2⟩ := tw_at_s ha hK.2.2.1 hq rfl
      have k100 := (hK.2.1 q hq).2
      refine tw_xshC hw hK hV hv hq ?_
      have i2 := ih (KY q + 1) (q + 1) (by omega) ha2
      have e1 : tw_sum (fun r => tw_ps P K A nu (tw_Y (40 * r) va) 8 v) (fun r => va (40 * r + 5 * v + c)) (q + 1) = if tw_ps P K A nu (tw_Y (40 * q) va) 8 v = true then tw_sum (fun r => tw_ps P K A nu (tw_Y (40 * r) va) 8 v) (fun r => va (40 * r + 5 * v + c)) q + va (40 * q + 5 * v + c) else tw_sum (fun r => tw_ps P K A nu (tw_Y (40 * r) va) 8 v) (fun r => va (40 * r + 5 * v + c)) q := rfl
      cases e : tw_ps P K A nu (tw_Y (40 * q) va) 8 v
      · rw [e1, e, if_neg (by decide)] at i2
        exact tw_c0 (nm_r (nI_1 _) i2)
      · rw [e1, e, if_pos rfl, ← hV q hq v hv c hc] at i2
        refine tw_c1 (tw_xcb ?_)
        simp (disch := omega) only [forall_eq, nI_add, nI_clamp, tw_in, true_and, nI_1]
        exact i2
    · have ny : ∀ q, q < n → KY q ≠ k := fun q hq e => hy ⟨q, hq, e⟩
      refine tw_xshB hw hK hv (tw_nk hK (by omega) ny) ?_
      exact tw_c0 (nm_r (nI_1 _) (ih (k + 1) r (by omega) (tw_at_n ha ny)))
theorem tw_ysum {v c : Nat} (hw : tw_wf vs P K A Z W) (hn : n ≤ 12) (hv : v < vs) (hc : c < W v) (h : post (tw_sum (fun r => tw_ps P K A nu (tw_Y (40 * r) va) 8 v) (fun r => va (40 * r + 5 * v + c)) n)) :
    ∀ d r, r + d = n → wY_sum_32 post (nI v) (nI c) (nI vs) (nI n) (tw_f P) (tw_f K) (tw_f A) (tw_f Z) nu (tw_f W) ky va dr kn (d + 1) (tw_sum (fun r => tw_ps P K A nu (tw_Y (40 * r) va) 8 v) (fun r => va (40 * r + 5 * v + c)) r) (nI r) := by
  have h8 := hw.2.1
  have h5 := (hw.2.2.1 v hv).2
  intro d
  induction d with
  | zero =>
    intro r hr
    have er : r = n := by omega
    subst er
    exact br_t (Int32.le_refl _) h
  | succ d ih =>
    intro q hr
    refine br_f (nI_ge (by omega) (by omega)) ?_
    refine tw_yps (by omega) hw hv ?_
    have i2 := ih (q + 1) (by omega)
    have e1 : tw_sum (fun r => tw_ps P K A nu (tw_Y (40 * r) va) 8 v) (fun r => va (40 * r + 5 * v + c)) (q + 1) = if tw_ps P K A nu (tw_Y (40 * q) va) 8 v = true then tw_sum (fun r => tw_ps P K A nu (tw_Y (40 * r) va) 8 v) (fun r => va (40 * r + 5 * v + c)) q + va (40 * q + 5 * v + c) else tw_sum (fun r => tw_ps P K A nu (tw_Y (40 * r) va) 8 v) (fun r => va (40 * r + 5 * v + c)) q := rfl
    cases e : tw_ps P K A nu (tw_Y (40 * q) va) 8 v
    · rw [e1, e, if_neg (by decide)] at i2
      exact tw_c0 (nm_r (nI_1 _) i2)
    · rw [e1, e, if_pos rfl] at i2
      refine tw_c1 ?_
      simp (disch := omega) only [forall_eq, tw_cY, nI_add, nI_clamp, tw_in, true_and, nI_1]
      exact i2
theorem tw_xkey {v : Nat} {kk : Int32} (hw : tw_wf vs P K A Z W) (hK : tw_keys n KY pr ky) (hV : tw_vals vs n W KY ce va) (hv : v < vs) :
    ∀ d k r bf, k + d = 100 → tw_at n KY k r → post (tw_key (fun r => tw_ps P K A nu (tw_Y (40 * r) va) 8 v) KY kk (n - r) r bf) → wX_key_15 post (nI v) kk (nI vs) (nI n) (tw_f P) (tw_f K) (tw_f A) (tw_f Z) nu (tw_f W) dr pr ce rc (d + 1) bf (nI k) := by
  intro d
  induction d with
  | zero =>
    intro k r bf hk ha h
    have ek : k = 100 := by omega
    subst ek
    rw [tw_at_e ha (fun q hq => (hK.2.1 q hq).2), Nat.sub_self] at h
    exact br_t (Int32.le_refl _) h
  | succ d ih =>
    intro k r bf hk ha h
    refine br_f (nI_ge (b := 100) (by omega) (by omega)) ?_
    by_cases hy : ∃ q, q < n ∧ KY q = k
    · obtain ⟨q, hq, rfl⟩ := hy
      obtain ⟨rfl, ha2⟩ := tw_at_s ha hK.2.2.1 hq rfl
      refine tw_xshC hw hK hV hv hq ?_
      rw [show n - q = n - (q + 1) + 1 by omega] at h
      unfold tw_key at h
      cases e : tw_ps P K A nu (tw_Y (40 * q) va) 8 v
      · rw [e, if_neg (by decide)] at h
        exact tw_c0 (nm_r (nI_1 _) (ih _ _ bf (by omega) ha2 h))
      · rw [e, if_pos rfl] at h
        refine tw_c1 (br_c (fun g => ?_) (fun g => nm_e (nm_r (nI_1 _) ?_)))
        · rw [if_pos g] at h; exact h
        · rw [if_neg g] at h
          exact ih _ _ _ (by omega) ha2 h
    · have ny : ∀ q, q < n → KY q ≠ k := fun q hq e => hy ⟨q, hq, e⟩
      refine tw_xshB hw hK hv (tw_nk hK (by omega) ny) ?_
      exact tw_c0 (nm_r (nI_1 _) (ih (k + 1) r bf (by omega) (tw_at_n ha ny) h))
theorem tw_ykey {v : Nat} {kk : Int32} (hw : tw_wf vs P K A Z W) (hK : tw_keys n KY pr ky) (hv : v < vs) :
    ∀ d r bf, r + d = n → post (tw_key (fun r => tw_ps P K A nu (tw_Y (40 * r) va) 8 v) KY kk d r bf) → wY_key_15 post (nI v) kk (nI vs) (nI n) (tw_f P) (tw_f K) (tw_f A) (tw_f Z) nu (tw_f W) ky va dr kn (d + 1) bf (nI r) := by
  have n12 := hK.1
  intro d
  induction d with
  | zero =>
    intro r bf hr h
    have er : r = n := by omega
    subst er
    exact br_t (Int32.le_refl _) h
  | succ d ih =>
    intro q bf hr h
    refine br_f (nI_ge (by omega) (by omega)) ?_
    refine tw_yps (by omega) hw hv ?_
    unfold tw_key at h
    cases e : tw_ps P K A nu (tw_Y (40 * q) va) 8 v
    · rw [e, if_neg (by decide)] at h
      exact tw_c0 (nm_r (nI_1 _) (ih _ bf (by omega) h))
    · rw [e, if_pos rfl] at h
      refine tw_c1 (br_c (fun g => ⟨vp_in_nI (by omega) (by omega), ?_⟩) (fun g => nm_e (nm_r (nI_1 _) ?_)))
      · rw [if_pos g] at h
        rw [nI_clamp (by omega), (hK.2.1 q (by omega)).1]; exact h
      · rw [if_neg g] at h
        exact ih _ _ (by omega) h
end
theorem i_vc_count {k : Nat} {u : SX} {v : SY} (I : i_Rel k u v) (hk : k + 5 ≤ 2560) (v1 : Int32) : wpX_count (fun r => wpY_count (fun r' => r' = r ∧ i_Rel (k + 5) u v) v v1) u v1 := by
  have I' : i_Rel (k + 5) u v := I
  obtain ⟨vs, n, P, K, A, Z, W, KY, nu, dr, pr, ce, rc, ky, va, kn, rfl, rfl, hw, hK, hV⟩ := I
  have h8 := hw.2.1
  have h1 := hw.1
  unfold wpX_count
  dsimp only [tw_X]
  by_cases hv : ∃ v, v < vs ∧ v1 = nI v
  · obtain ⟨v, hv, rfl⟩ := hv
    refine tw_xV1 hv h8 ?_
    refine tw_c1 ⟨101, ?_⟩
    refine tw_xcnt hw hK hV hv ?_ 100 0 0 rfl tw_at_0
    unfold wpY_count
    dsimp only [tw_S]
    refine tw_yV1 hv h8 ?_
    refine tw_c1 ⟨n + 1, ?_⟩
    exact tw_ycnt hw hK.1 hv ⟨rfl, I'⟩ n 0 (by omega)
  · refine tw_xV0 h8 hv ?_
    refine tw_c0 ?_
    unfold wpY_count
    dsimp only [tw_S]
    refine tw_yV0 h1 h8 hv ?_
    exact tw_c0 ⟨rfl, I'⟩
theorem i_vc_sum {k : Nat} {u : SX} {v : SY} (I : i_Rel k u v) (hk : k + 5 ≤ 2560) (v1 : Int32) (v2 : Int32) : wpX_sum (fun r => wpY_sum (fun r' => r' = r ∧ i_Rel (k + 5) u v) v v1 v2) u v1 v2 := by
  have I' : i_Rel (k + 5) u v := I
  obtain ⟨vs, n, P, K, A, Z, W, KY, nu, dr, pr, ce, rc, ky, va, kn, rfl, rfl, hw, hK, hV⟩ := I
  have h8 := hw.2.1
  have h1 := hw.1
  have hW : ∀ v, v < vs → W v ≤ 5 := fun v hv => (hw.2.2.1 v hv).2
  unfold wpX_sum
  dsimp only [tw_X]
  by_cases hv : ∃ v, v < vs ∧ v1 = nI v
  · obtain ⟨v, hv, rfl⟩ := hv
    have h5 := hw.2.2.1 v hv
    by_cases hc : ∃ c, c < W v ∧ v2 = nI c
    · obtain ⟨c, hc, rfl⟩ := hc
      refine tw_xC1 hv h8 hc (hW v hv) ?_
      refine tw_c1 ⟨101, ?_⟩
      refine tw_xsum hw hK hV hv hc ?_ 100 0 0 rfl tw_at_0
      unfold wpY_sum
      dsimp only [tw_S]
      refine tw_yV1 hv h8 ?_
      refine tw_c1 ⟨vp_in_nI (by omega) (by omega), ?_⟩
      refine tw_yC1 (by omega) hc (hW v hv) ?_
      refine tw_c1 ⟨n + 1, ?_⟩
      exact tw_ysum hw hK.1 hv hc ⟨rfl, I'⟩ n 0 (by omega)
    · have nc : ¬ ∃ w, w < vs ∧ nI v = nI w ∧ ∃ c, c < W w ∧ v2 = nI c := by
        rintro ⟨w, hw', e, h⟩
        rw [(nI_eq (by omega) (by omega)).mp e] at hc
        exact hc h
      refine tw_xC0 h8 hW nc ?_
      refine tw_c0 ?_
      unfold wpY_sum
      dsimp only [tw_S]
      refine tw_yV1 hv h8 ?_
      refine tw_c1 ⟨vp_in_nI (by omega) (by omega), ?_⟩
      refine tw_yC0 (by omega) h5.1 h5.2 hc ?_
      exact tw_c0 ⟨rfl, I'⟩
  · have nc : ¬ ∃ w, w < vs ∧ v1 = nI w ∧ ∃ c, c < W w ∧ v2 = nI c := fun ⟨w, hw', e, _⟩ => hv ⟨w, hw', e⟩
    refine tw_xC0 h8 hW nc ?_
    refine tw_c0 ?_
    unfold wpY_sum
    dsimp only [tw_S]
    refine tw_yV0 h1 h8 hv ?_
    exact tw_c0 ⟨rfl, I'⟩
theorem i_vc_key {k : Nat} {u : SX} {v : SY} (I : i_Rel k u v) (hk : k + 5 ≤ 2560) (v1 : Int32) (v2 : Int32) : wpX_key (fun r => wpY_key (fun r' => r' = r ∧ i_Rel (k + 5) u v) v v1 v2) u v1 v2 := by
  have I' : i_Rel (k + 5) u v := I
  obtain ⟨vs, n, P, K, A, Z, W, KY, nu, dr, pr, ce, rc, ky, va, kn, rfl, rfl, hw, hK, hV⟩ := I
  have h8 := hw.2.1
  have h1 := hw.1
  unfold wpX_key
  dsimp only [tw_X]
  by_cases hv : ∃ v, v < vs ∧ v1 = nI v
  · obtain ⟨v, hv, rfl⟩ := hv
    refine tw_xV1 hv h8 ?_
    refine tw_c1 ⟨101, ?_⟩
    refine tw_xkey hw hK hV hv 100 0 0 0 rfl tw_at_0 ?_
    unfold wpY_key
    dsimp only [tw_S]
    refine tw_yV1 hv h8 ?_
    refine tw_c1 ⟨n + 1, ?_⟩
    exact tw_ykey hw hK hv n 0 0 (by omega) ⟨rfl, I'⟩
  · refine tw_xV0 h8 hv ?_
    refine tw_c0 ?_
    unfold wpY_key
    dsimp only [tw_S]
    refine tw_yV0 h1 h8 hv ?_
    exact tw_c0 ⟨rfl, I'⟩
end
section
/-! SchemaTwins: delete and edit -/
section
variable {vs n : Nat} {P K A Z W KY : Nat → Nat} {nu dr pr ce rc ky va kn : Nat → Int32} {post : Int32 → SY → Prop}
theorem tw_ydel {m a : Nat} (hm : m < 12) (hp : ∀ ky' va', tw_sd m a ky va m ky' va' → post (nI m) (tw_S vs m P K A Z W nu ky' va' dr kn)) :
    ∀ d k ky' va', k + d = m → tw_sd m a ky va k ky' va' → wY_delete_46 post (d + 1) (nI k) (nI vs) (nI (m + 1)) (tw_f P) (tw_f K) (tw_f A) (tw_f Z) nu (tw_f W) ky' va' dr kn := by
  intro d
  induction d with
  | zero =>
    intro k ky' va' hk I
    have ek : k = m := by omega
    subst ek
    exact br_t (by rw [nI_pred]; exact Int32.le_refl _) (nm_r (nI_pred k) (hp _ _ I))
  | succ d ih =>
    intro k ky' va' hk I
    refine br_f (by rw [nI_pred]; exact nI_ge (by omega) (by omega)) ?_
    simp (disch := omega) only [forall_eq, nI_1, nI_clamp, tw_in, true_and]
    refine tw_ycp (s := k + 1) (t := k) (by omega) (by omega) (by omega) (fun f' C => ?_)
    exact ih (k + 1) _ f' (by omega) (tw_sd_s I hm (by omega) C)
end
theorem i_vc_delete {k : Nat} {u : SX} {v : SY} (I : i_Rel k u v) (hk : k + 5 ≤ 2560) (v1 : Int32) (v2 : Int32) : wpX_delete (fun r u' => wpY_delete (fun r' v' => r' = r ∧ i_Rel (k + 5) u' v') v v1 v2) u v1 v2 := by
  obtain ⟨vs, n, P, K, A, Z, W, KY, nu, dr, pr, ce, rc, ky, va, kn, rfl, rfl, hw, hK, hV⟩ := I
  have I' : i_Rel (k + 5) (tw_X vs n P K A Z W nu dr pr ce rc) (tw_S vs n P K A Z W nu ky va dr kn) := ⟨vs, n, P, K, A, Z, W, KY, nu, dr, pr, ce, rc, ky, va, kn, rfl, rfl, hw, hK, hV⟩
  have h8 := hw.2.1
  have h1 := hw.1
  have n12 := hK.1
  unfold wpX_delete
  dsimp only [tw_X]
  by_cases hv : ∃ v, v < vs ∧ v1 = nI v
  · obtain ⟨v, hv, rfl⟩ := hv
    refine tw_xV1 hv h8 ?_
    refine tw_c1 ?_
    by_cases hy : ∃ k, k < 100 ∧ v2 = nI k
    · obtain ⟨y, hy, rfl⟩ := hy
      refine tw_xK1 hy ?_
      refine tw_c1 ?_
      by_cases hr : ∃ r, r < n ∧ KY r = y
      · obtain ⟨r, hr, rfl⟩ := hr
        refine tw_xshC hw hK hV hv hr ?_
        cases e : tw_ps P K A nu (tw_Y (40 * r) va) 8 v
        · refine tw_c0 ?_
          unfold wpY_delete
          dsimp only [tw_S]
          refine tw_yV1 hv h8 ?_
          refine tw_c1 ?_
          refine tw_yin1 (m := 100) hy (by omega) ?_
          refine tw_c1 ?_
          refine tw_fS hK hr ?_
          refine br_f (nI_pos (by omega)) ?_
          refine tw_yps (by omega) hw hv ?_
          rw [e]
          exact tw_c0 ⟨rfl, I'⟩
        · obtain ⟨m, rfl⟩ : ∃ m, n = m + 1 := ⟨n - 1, by omega⟩
          refine tw_c1 ⟨vp_in_nI hy (by omega), nm_r (e' := upd pr (KY r) 0) (by rw [nI_clamp (by omega), tw_b0]) (nm_r (nI_pred m) ?_)⟩
          unfold wpY_delete
          dsimp only [tw_S]
          refine tw_yV1 hv h8 ?_
          refine tw_c1 ?_
          refine tw_yin1 (m := 100) hy (by omega) ?_
          refine tw_c1 ?_
          refine tw_fS hK hr ?_
          refine br_f (nI_pos (by omega)) ?_
          refine tw_yps (by omega) hw hv ?_
          rw [e]
          refine tw_c1 ⟨m - r + 1, ?_⟩
          refine tw_ydel (a := r) (by omega) (fun ky' va' S => ?_) (m - r) r ky va (by omega) (tw_sd_0 (by omega))
          obtain ⟨s1, s2, s3, s4, s5⟩ := S
          refine ⟨rfl, vs, m, P, K, A, Z, W, tw_kd KY r, nu, dr, upd pr (KY r) 0, ce, rc, ky', va', kn, rfl, rfl, hw, ?_, ?_⟩
          · exact tw_keys_d hK (by omega) (fun q hq => (s3 q hq).1) (fun q h2 h3 => (s4 q h2 h3).1)
          · exact tw_vals_d hV h8 (fun w hw' => (hw.2.2.1 w hw').2) (by omega) (fun q hq => (s3 q hq).2) (fun q h2 h3 => (s4 q h2 h3).2)
      · have ny : ∀ q, q < n → KY q ≠ y := fun q hq e => hr ⟨q, hq, e⟩
        refine tw_xshB hw hK hv (tw_nk hK hy ny) ?_
        refine tw_c0 ?_
        unfold wpY_delete
        dsimp only [tw_S]
        refine tw_yV1 hv h8 ?_
        refine tw_c1 ?_
        refine tw_yin1 (m := 100) hy (by omega) ?_
        refine tw_c1 ?_
        refine tw_fN hK (tw_nk hK hy ny) ?_
        exact br_t tw_m1 ⟨rfl, I'⟩
    · refine tw_xK0 hy ?_
      refine tw_c0 ?_
      unfold wpY_delete
      dsimp only [tw_S]
      refine tw_yV1 hv h8 ?_
      refine tw_c1 ?_
      refine tw_yin0 (m := 100) (by omega) (by omega) hy ?_
      exact tw_c0 ⟨rfl, I'⟩
  · refine tw_xV0 h8 hv ?_
    refine tw_c0 ?_
    unfold wpY_delete
    dsimp only [tw_S]
    refine tw_yV0 h1 h8 hv ?_
    exact tw_c0 ⟨rfl, I'⟩
/-! edit -/
section
variable {vs n : Nat} {P K A Z W KY : Nat → Nat} {nu dr pr ce rc ky va kn : Nat → Int32}
theorem tw_ef46 {post : Int32 → Prop} {kd x z : Nat} {f1 f2 : Int32} {g1 g2 g3 g4 g5 g6 g7 g8 g9 g0 : Nat → Int32} (hk : kd < 8) (hx : x < 8) (hz : z < 8) (h0 : kd = 5 → x = z → post 0) (h1 : ¬ (kd = 5 ∧ x = z) → post 1) : wX_editFits_46 post (nI kd) (nI x) (nI z) f1 f2 g1 g2 g3 g4 g5 g6 g7 g8 g9 g0 :=
  pk_eq kd 5 (fun e => pk_eq x z (fun e2 => h0 e e2) (fun e2 => h1 (by omega))) (fun e => h1 (by omega))
theorem tw_xef {post : Int32 → Prop} {v kd x z : Nat} (hv : v < 8) (hW : W v ≤ 5) (hk : kd < 8) (hx : x < 8) (hz : z < 8)
    (h1 : kd ≤ 5 → (kd ≠ 0 → x < W v) → (4 ≤ kd → z < W v) → (kd = 5 → x ≠ z) → post 1) (h0 : ¬ (kd ≤ 5 ∧ (kd ≠ 0 → x < W v) ∧ (4 ≤ kd → z < W v) ∧ (kd = 5 → x ≠ z)) → post 0) :
    wpX_editFits post (tw_X vs n P K A Z W nu dr pr ce rc) (nI v) (nI kd) (nI x) (nI z) := by
  have c : (nI v).toNatClampNeg = v := nI_clamp (by omega)
  have i8 : vp_in (nI v) 8 := vp_in_nI (by omega) (by omega)
  have h23 : kd ≤ 5 → (kd ≠ 0 → x < W v) → wX_editFits_23 post (nI v) (nI kd) (nI x) (nI z) (nI vs) (nI n) (tw_f P) (tw_f K) (tw_f A) (tw_f Z) nu (tw_f W) dr pr ce rc := by
    intro k5 kx
    have h33 : 4 ≤ kd → wX_editFits_33 post (nI v) (nI kd) (nI x) (nI z) (nI vs) (nI n) (tw_f P) (tw_f K) (tw_f A) (tw_f Z) nu (tw_f W) dr pr ce rc := by
      intro k4
      refine ⟨i8, ?_⟩
      rw [c]
      refine pk_lt z (W v) (fun g => ?_) (fun g => h0 (by omega))
      exact tw_ef46 hk hx hz (fun a b => h0 (by omega)) (fun a => h1 k5 kx (fun _ => g) (by omega))
    exact pk_eq kd 4 (fun e => h33 (by omega)) (fun e4 => pk_eq kd 5 (fun e => h33 (by omega)) (fun e5 => tw_ef46 hk hx hz (fun a b => absurd a e5) (fun a => h1 k5 kx (fun q => absurd q (by omega)) (by omega))))
  unfold wpX_editFits
  dsimp only [tw_X]
  rw [c]
  exact pk_le kd 5 (fun k5 => pk_eq kd 0 (fun e => h23 k5 (by omega)) (fun e => ⟨i8, pk_lt x (W v) (fun g => h23 k5 (fun _ => g)) (fun g => h0 (by omega))⟩)) (fun k5 => h0 (by omega))
def tw_wd (kd w : Nat) : Nat := if kd = 0 then w + 1 else if kd = 1 then w - 1 else w
theorem tw_wd0 {kd w : Nat} (e : kd = 0) : nI w + 1 = nI (tw_wd kd w) := by
  unfold tw_wd; rw [if_pos e, nI_1]
theorem tw_wd1 {kd w : Nat} (h1 : 1 ≤ w) (e0 : kd ≠ 0) (e : kd = 1) : nI w + (-1) = nI (tw_wd kd w) := by
  unfold tw_wd; rw [if_neg e0, if_pos e]
  obtain ⟨m, rfl⟩ : ∃ m, w = m + 1 := ⟨w - 1, by omega⟩
  exact pk_m1 m
theorem tw_wd2 {kd w : Nat} (e0 : kd ≠ 0) (e : kd ≠ 1) : nI w + 0 = nI (tw_wd kd w) := by
  unfold tw_wd; rw [if_neg e0, if_neg e, Int32.add_zero]
theorem tw_xwd {post : Int32 → Prop} {kd w : Nat} (hk : kd < 8) (h1 : 1 ≤ w) (h : ∀ r, nI w + r = nI (tw_wd kd w) → post r) : wpX_widening post (tw_X vs n P K A Z W nu dr pr ce rc) (nI kd) :=
  pk_eq kd 0 (fun e => h _ (tw_wd0 e)) (fun e => pk_eq kd 1 (fun e1 => h _ (tw_wd1 h1 e e1)) (fun e1 => h _ (tw_wd2 e e1)))
theorem tw_wdok {kd x z w : Nat} (hx : x < 8) (hz : z < 8) (hw : 1 ≤ w ∧ w ≤ 5) (k5 : kd ≤ 5) (kx : kd ≠ 0 → x < w) (kz : 4 ≤ kd → z < w) (kn : kd = 5 → x ≠ z) (g1 : 1 ≤ tw_wd kd w) (g5 : tw_wd kd w ≤ 5) : tw_ok kd x z w (tw_wd kd w) := by
  refine ⟨k5, hw, ⟨g1, g5⟩, kx, kz, kn, fun e => ?_, fun e => ?_, fun e => ?_, hx, hz⟩
  · unfold tw_wd; rw [if_pos e]
  · unfold tw_wd; rw [if_neg (by omega), if_pos e]; omega
  · unfold tw_wd; rw [if_neg (by omega), if_neg (by omega)]
/-- the reference's new version, row by row -/
def tw_gl (P K A Z W : Nat → Nat) (nu va : Nat → Int32) (w i : Nat) (f : Nat → Int32) : Prop :=
  (∀ k, k < i → ∀ c, c < W w → f (40 * k + 5 * w + c) = tw_td (K w) (A w) (Z w) (nu w) (W w) true (fun c => va (40 * k + 5 * P w + c)) (fun c => va (40 * k + 5 * w + c)) c) ∧ (∀ k, i ≤ k → ∀ j, j < 40 → f (40 * k + j) = va (40 * k + j)) ∧ (∀ k v, v < 8 → v ≠ w → ∀ c, c < 5 → f (40 * k + 5 * v + c) = va (40 * k + 5 * v + c))
theorem tw_gl_s {w i : Nat} {f f' : Nat → Int32} (hw : w < 8) (hP : P w < w) (ok : tw_ok (K w) (A w) (Z w) (W (P w)) (W w)) (I : tw_gl P K A Z W nu va w i f)
    (G : tw_G f f' (40 * i + 5 * w) (W w) (tw_td (K w) (A w) (Z w) (nu w) (W w) true (fun c => f (40 * i + 5 * P w + c)) (fun c => f (40 * i + 5 * w + c)))) : tw_gl P K A Z W nu va w (i + 1) f' := by
  obtain ⟨a1, a2, a3⟩ := I
  have ok' := ok
  unfold tw_ok at ok'
  refine ⟨fun k hk c hc => ?_, fun k hk j hj => ?_, fun k v hv hne c hc => ?_⟩
  · by_cases e : k = i
    · subst e
      refine (G.1 c hc).trans (tw_td_c ok (fun c hc => ?_) (fun q => absurd q (by decide)) c hc)
      have := a2 k (Nat.le_refl _) (5 * P w + c) (by omega)
      rw [← Nat.add_assoc] at this; exact this
    · rw [G.2 _ (by omega)]; exact a1 k (by omega) c hc
  · rw [G.2 _ (by omega)]; exact a2 k (by omega) j hj
  · rw [G.2 _ (by omega)]; exact a3 k v hv hne c hc
theorem tw_yel {post : Int32 → SY → Prop} {w : Nat} (hw : w < 8) (hn : n ≤ 12) (hP : P w < w) (ok : tw_ok (K w) (A w) (Z w) (W (P w)) (W w))
    (hp : ∀ f', tw_gl P K A Z W nu va w n f' → post (nI w) (tw_S (w + 1) n P K A Z W nu ky f' dr kn)) :
    ∀ d i f, i + d = n → tw_gl P K A Z W nu va w i f → wY_edit_218 post (d + 1) (nI i) (nI w) (nI n) (tw_f P) (tw_f K) (tw_f A) (tw_f Z) nu (tw_f W) ky f dr kn := by
  intro d
  induction d with
  | zero =>
    intro i f hi I
    have ei : i = n := by omega
    subst ei
    refine br_t (Int32.le_refl _) (nm_r (nI_1 w) ?_)
    rw [nI_pred]
    exact hp f I
  | succ d ih =>
    intro i f hi I
    refine br_f (nI_ge (by omega) (by omega)) ?_
    refine tw_ytc (b := true) (by omega) hw hP ok (fun f' G => ?_)
    exact nm_r (nI_1 i) (ih (i + 1) f' (by omega) (tw_gl_s hw hP ok I G))
end
end
section
/-! SchemaTwins: edit -/
section
variable {vs n : Nat} {P K A Z W KY : Nat → Nat} {nu dr pr ce rc ky va kn : Nat → Int32} {post : Int32 → SY → Prop}
/-- the reference's edit, refused or not, by the same numbers -/
theorem tw_ye93 {v kd x z : Nat} {y : Int32} (hk : kd < 8) (hx : x < 8) (hz : z < 8) (hv : v < 8) (h1 : 1 ≤ W v) (h5 : W v ≤ 5) (hs : vs < 8)
    (hb : kd = 5 → x = z → post (-1) (tw_S vs n P K A Z W nu ky va dr kn)) (hf : (kd = 5 → x ≠ z) → ¬ (1 ≤ tw_wd kd (W v) ∧ tw_wd kd (W v) ≤ 5) → post (-2) (tw_S vs n P K A Z W nu ky va dr kn))
    (hg : (kd = 5 → x ≠ z) → 1 ≤ tw_wd kd (W v) → tw_wd kd (W v) ≤ 5 → ∃ d, wY_edit_218 post d 0 (nI vs) (nI n) (tw_f (tw_un P vs v)) (tw_f (tw_un K vs kd)) (tw_f (tw_un A vs x)) (tw_f (tw_un Z vs z)) (upd nu vs y) (tw_f (tw_un W vs (tw_wd kd (W v)))) ky va dr kn) :
    wY_edit_93 post (nI v) y (nI kd) (nI x) (nI z) (nI vs) (nI n) (tw_f P) (tw_f K) (tw_f A) (tw_f Z) nu (tw_f W) ky va dr kn := by
  have c : (nI v).toNatClampNeg = v := nI_clamp (by omega)
  have i8 : vp_in (nI v) 8 := vp_in_nI (by omega) (by omega)
  have h134 : (kd = 5 → x ≠ z) → ∀ r, nI (W v) + r = nI (tw_wd kd (W v)) → wY_edit_134 post (nI v) y (nI kd) (nI x) (nI z) r (nI (W v)) (nI vs) (nI n) (tw_f P) (tw_f K) (tw_f A) (tw_f Z) nu (tw_f W) ky va dr kn := by
    intro ne r er
    have wl : tw_wd kd (W v) < 8 := by unfold tw_wd; split <;> (try split) <;> omega
    refine nm_r er ?_
    refine pk_lt (tw_wd kd (W v)) 1 (fun g => tw_c0 (hf ne (by omega))) (fun g => pk_lt 5 (tw_wd kd (W v)) (fun g' => tw_c0 (hf ne (by omega))) (fun g' => tw_c1 ?_))
    simp (disch := omega) only [forall_eq, nI_clamp, tw_in, true_and, tw_f_u]
    exact hg ne g g'
  have h108 : (kd = 5 → x ≠ z) → wY_edit_108 post (nI v) y (nI kd) (nI x) (nI z) (nI vs) (nI n) (tw_f P) (tw_f K) (tw_f A) (tw_f Z) nu (tw_f W) ky va dr kn := by
    intro ne
    refine ⟨i8, ?_⟩
    rw [c]
    exact pk_eq kd 0 (fun e => h134 ne _ (tw_wd0 e)) (fun e => pk_eq kd 1 (fun e1 => h134 ne _ (tw_wd1 h1 e e1)) (fun e1 => h134 ne _ (tw_wd2 e e1)))
  exact pk_eq kd 5 (fun e => pk_eq x z (fun e2 => hb e e2) (fun e2 => h108 (fun _ => e2))) (fun e => h108 (fun q => absurd q e))
end
theorem i_vc_edit {k : Nat} {u : SX} {v : SY} (I : i_Rel k u v) (hk : k + 5 ≤ 2560) (v1 : Int32) (v2 : Int32) (v3 : Int32) : wpX_edit (fun r u' => wpY_edit (fun r' v' => r' = r ∧ i_Rel (k + 5) u' v') v v1 v2 v3) u v1 v2 v3 := by
  obtain ⟨vs, n, P, K, A, Z, W, KY, nu, dr, pr, ce, rc, ky, va, kn, rfl, rfl, hw, hK, hV⟩ := I
  have I' : i_Rel (k + 5) (tw_X vs n P K A Z W nu dr pr ce rc) (tw_S vs n P K A Z W nu ky va dr kn) := ⟨vs, n, P, K, A, Z, W, KY, nu, dr, pr, ce, rc, ky, va, kn, rfl, rfl, hw, hK, hV⟩
  have h8 := hw.2.1
  have h1 := hw.1
  have n12 := hK.1
  unfold wpX_edit
  dsimp only [tw_X]
  by_cases hv : ∃ v, v < vs ∧ v1 = nI v
  · obtain ⟨v, hv, rfl⟩ := hv
    have hW := hw.2.2.1 v hv
    have yV : ∀ {post : Int32 → Prop}, post 1 → wpY_isVersion post (tw_S vs n P K A Z W nu ky va dr kn) (nI v) := fun h => tw_yV1 hv h8 h
    refine tw_xV1 hv h8 ?_
    refine tw_c1 ?_
    rcases tw_lt v2 (n := 512) (by omega) with ⟨m, hm, rfl, a1, a2, a3, a4⟩ | ⟨a, _⟩ | ⟨a, b, c, d⟩
    · refine br_f a1 (br_t (nI_le (b := 511) (by omega) (by omega)) ?_)
      refine pk_eq vs 8 (fun e8 => ?_) (fun e8 => ?_)
      · unfold wpY_edit
        dsimp only [tw_S]
        refine yV ?_
        refine tw_c1 ?_
        refine tw_yin1 (m := 512) hm (by omega) ?_
        exact tw_c1 (pk_eq vs 8 (fun _ => ⟨rfl, I'⟩) (fun q => absurd e8 q))
      · have hkd : m % 8 < 8 := Nat.mod_lt _ (by decide)
        have hx : m / 8 % 8 < 8 := Nat.mod_lt _ (by decide)
        have hz : m / 64 < 8 := by omega
        refine nm_r (tw_w0 (by omega)) (nm_r (tw_w3 (by omega)) (nm_r (tw_w7 (by omega)) ?_))
        generalize ekd : m % 8 = kd at hkd
        generalize ex : m / 8 % 8 = x at hx
        generalize ez : m / 64 = z at hz
        have yE : ∀ {post : Int32 → SY → Prop}, (pw : 5 < kd → post (-1) (tw_S vs n P K A Z W nu ky va dr kn)) → (px : kd ≤ 5 → kd ≠ 0 → W v ≤ x → post (-1) (tw_S vs n P K A Z W nu ky va dr kn)) → (pz : kd ≤ 5 → 4 ≤ kd → W v ≤ z → post (-1) (tw_S vs n P K A Z W nu ky va dr kn)) →
            (pe : kd ≤ 5 → (kd ≠ 0 → x < W v) → (4 ≤ kd → z < W v) → wY_edit_93 post (nI v) v3 (nI kd) (nI x) (nI z) (nI vs) (nI n) (tw_f P) (tw_f K) (tw_f A) (tw_f Z) nu (tw_f W) ky va dr kn) → wpY_edit post (tw_S vs n P K A Z W nu ky va dr kn) (nI v) (nI m) v3 := by
          intro post pw px pz pe
          have c : (nI v).toNatClampNeg = v := nI_clamp (by omega)
          have i8 : vp_in (nI v) 8 := vp_in_nI (by omega) (by omega)
          unfold wpY_edit
          dsimp only [tw_S]
          refine yV ?_
          refine tw_c1 ?_
          refine tw_yin1 (m := 512) hm (by omega) ?_
          refine tw_c1 (pk_eq vs 8 (fun q => absurd q e8) (fun _ => ?_))
          refine nm_r (tw_w0 (by omega)) (nm_r (tw_w3 (by omega)) (nm_r (tw_w6 (by omega)) ?_))
          rw [ekd, ex, ez]
          have h76 : kd ≤ 5 → (kd ≠ 0 → x < W v) → wY_edit_76 post (nI v) v3 (nI kd) (nI x) (nI z) (nI vs) (nI n) (tw_f P) (tw_f K) (tw_f A) (tw_f Z) nu (tw_f W) ky va dr kn := by
            intro k5 kx
            refine pk_lt kd 4 (fun g => pe k5 kx (by omega)) (fun g => ⟨i8, ?_⟩)
            rw [c]
            exact pk_le (W v) z (fun g' => pz k5 g g') (fun g' => pe k5 kx (fun _ => g'))
          refine pk_lt 5 kd (fun g => pw g) (fun g => pk_eq kd 0 (fun e => h76 g (fun q => absurd e q)) (fun e => ⟨i8, ?_⟩))
          rw [c]
          exact pk_le (W v) x (fun g' => px g e g') (fun g' => h76 g (fun _ => g'))
        refine tw_xef (by omega) hW.2 hkd hx hz (fun k5 kx kz kq => ?_) (fun nf => ?_)
        · refine tw_c1 ⟨vp_in_nI (by omega) (by omega), ?_⟩
          refine tw_xwd (w := W v) hkd hW.1 (fun r er => ?_)
          have wl : tw_wd kd (W v) < 8 := by unfold tw_wd; split <;> (try split) <;> omega
          refine nm_r (e' := nI (tw_wd kd (W v))) (by rw [nI_clamp (by omega)]; exact er) ?_
          have full : ¬ (1 ≤ tw_wd kd (W v) ∧ tw_wd kd (W v) ≤ 5) → wpY_edit (fun r' v' => r' = -2 ∧ i_Rel (k + 5) (tw_X vs n P K A Z W nu dr pr ce rc) v') (tw_S vs n P K A Z W nu ky va dr kn) (nI v) (nI m) v3 := by
            intro ng
            refine yE (fun q => absurd q (by omega)) (fun _ q1 q2 => absurd (kx q1) (by omega)) (fun _ q1 q2 => absurd (kz q1) (by omega)) (fun _ _ _ => ?_)
            refine tw_ye93 hkd hx hz (by omega) hW.1 hW.2 (by omega) (fun e1 e2 => absurd e2 (kq e1)) (fun _ _ => ⟨rfl, I'⟩) (fun _ q1 q2 => absurd ⟨q1, q2⟩ ng)
          refine pk_lt (tw_wd kd (W v)) 1 (fun g => full (by omega)) (fun g => pk_le (tw_wd kd (W v)) 5 (fun g' => ?_) (fun g' => full (by omega)))
          have ok := tw_wdok hx hz hW k5 kx kz kq g g'
          have hw2 := tw_wf_e hw (by omega) hv ok
          have hq := hw2.2.2.2 vs (by omega) (by omega)
          simp (disch := omega) only [forall_eq, nI_clamp, tw_in, true_and, tw_f_u, nI_1]
          refine tw_xfv (w := vs) (by omega) hq.1 hq.2 (fun f' FL => ?_)
          refine yE (fun q => absurd q (by omega)) (fun _ q1 q2 => absurd (kx q1) (by omega)) (fun _ q1 q2 => absurd (kz q1) (by omega)) (fun _ _ _ => ?_)
          refine tw_ye93 hkd hx hz (by omega) hW.1 hW.2 (by omega) (fun e1 e2 => absurd e2 (kq e1)) (fun _ q => absurd ⟨g, g'⟩ q) (fun _ _ _ => ⟨n + 1, ?_⟩)
          refine tw_yel (w := vs) (by omega) n12 hq.1 hq.2 (fun fy GL => ?_) n 0 va (by omega) ⟨fun k h => absurd h (Nat.not_lt_zero _), fun _ _ _ _ => rfl, fun _ _ _ _ _ _ => rfl⟩
          refine ⟨rfl, vs + 1, n, tw_un P vs v, tw_un K vs kd, tw_un A vs x, tw_un Z vs z, tw_un W vs (tw_wd kd (W v)), KY, upd nu vs v3, dr, pr, f', rc, ky, fy, kn, rfl, rfl, hw2, hK, ?_⟩
          refine tw_vals_e (y := v3) hV (by omega) hv (fun w hw' => (hw.2.2.1 w hw').2) ok (fun r hr c hc => ?_) (fun r hr w hw' c hc => ?_) (fun r hr c hc => ?_) (fun r hr w hw' c hc => ?_)
          · have := FL.1 (KY r) (hK.2.1 r hr).2 (by rw [tw_pr hK hr]; exact tw_10) c (by rw [tw_un_s]; exact hc)
            simp only [tw_un_s, pk_us] at this
            exact this
          · exact FL.2.2 (KY r) w (by omega) (by omega) c hc
          · have := GL.1 r hr c (by rw [tw_un_s]; exact hc)
            simp only [tw_un_s, pk_us] at this
            exact this
          · exact GL.2.2 r w (by omega) (by omega) c hc
        · refine tw_c0 ?_
          refine yE (fun _ => ⟨rfl, I'⟩) (fun _ _ _ => ⟨rfl, I'⟩) (fun _ _ _ => ⟨rfl, I'⟩) (fun k5 kx kz => ?_)
          refine tw_ye93 hkd hx hz (by omega) hW.1 hW.2 (by omega) (fun e1 e2 => ⟨rfl, I'⟩) (fun q _ => absurd ⟨k5, kx, kz, q⟩ nf) (fun q _ _ => absurd ⟨k5, kx, kz, q⟩ nf)
    · have nx : ¬ ∃ j, j < 512 ∧ v2 = nI j := by
        rintro ⟨j, hj, rfl⟩
        exact nI_pos (by omega) a
      refine br_t a ?_
      unfold wpY_edit
      dsimp only [tw_S]
      refine yV ?_
      refine tw_c1 ?_
      refine tw_yin0 (m := 512) (by omega) (by omega) nx ?_
      exact tw_c0 ⟨rfl, I'⟩
    · have nx : ¬ ∃ j, j < 512 ∧ v2 = nI j := by
        rintro ⟨j, hj, rfl⟩
        exact nI_ge hj (by omega) c
      have ng : ¬ v2 ≤ 511 := fun q => absurd (Int32.lt_of_lt_of_le (nI_lt (a := 511) (b := 512) (by omega) (by omega)) c) (Int32.not_lt.mpr q)
      refine br_f a (br_f ng ?_)
      unfold wpY_edit
      dsimp only [tw_S]
      refine yV ?_
      refine tw_c1 ?_
      refine tw_yin0 (m := 512) (by omega) (by omega) nx ?_
      exact tw_c0 ⟨rfl, I'⟩
  · refine tw_xV0 h8 hv ?_
    refine tw_c0 ?_
    unfold wpY_edit
    dsimp only [tw_S]
    refine tw_yV0 h1 h8 hv ?_
    exact tw_c0 ⟨rfl, I'⟩
end
section
/-! SchemaTwins: insert -/
section
variable {vs n : Nat} {P K A Z W KY : Nat → Nat} {nu dr pr ce rc ky va kn : Nat → Int32}
theorem tw_xins {post : Int32 → SX → Prop} {v key : Nat} (hw : tw_wf vs P K A Z W) (hv : v < vs) (hk : key < 100)
    (h0 : ∀ f f2 rc2, tw_I ce (100 * 40 + v * 5) dr (W v) f → tw_path vs v P rc2 → tw_fin vs v P K A Z W nu true rc2 (tw_V (100 * 40) f) (tw_V (100 * 40) f2) → (∀ j, j < 100 * 40 ∨ 100 * 40 + 40 ≤ j → f2 j = f j) → tw_ps P K A nu (tw_V (100 * 40) f2) 8 v = false → post (-4) (tw_X vs n P K A Z W nu dr pr f2 rc2))
    (h1 : ∀ f f2 rc2, tw_I ce (100 * 40 + v * 5) dr (W v) f → tw_path vs v P rc2 → tw_fin vs v P K A Z W nu true rc2 (tw_V (100 * 40) f) (tw_V (100 * 40) f2) → (∀ j, j < 100 * 40 ∨ 100 * 40 + 40 ≤ j → f2 j = f j) → tw_ps P K A nu (tw_V (100 * 40) f2) 8 v = true → ∀ f3, tw_I f2 (key * 40) (fun i => f2 (100 * 40 + i)) 40 f3 → post (nI (n + 1)) (tw_X vs (n + 1) P K A Z W nu dr (upd pr key 1) f3 rc2)) :
    ∀ d i f, i + d = W v → tw_I ce (100 * 40 + v * 5) dr i f → wX_insert_53 post (nI v) (nI key) (nI (100 * 40 + v * 5)) (nI vs) (nI n) (d + 1) (nI i) (tw_f P) (tw_f K) (tw_f A) (tw_f Z) nu (tw_f W) dr pr f rc := by
  have h8 := hw.2.1
  have h5 := (hw.2.2.1 v hv).2
  have c : (nI v).toNatClampNeg = v := nI_clamp (by omega)
  have i8 : vp_in (nI v) 8 := vp_in_nI (by omega) (by omega)
  intro d
  induction d with
  | zero =>
    intro i f hi I
    have ei : i = W v := by omega
    subst ei
    refine ⟨i8, ?_⟩
    rw [c]
    refine br_t (Int32.le_refl _) ?_
    refine tw_xsp (r := 100) (b := true) (by omega) hw hv (fun f2 rc2 Q1 Q2 Q3 => ?_)
    refine tw_xps (r := 100) (by omega) hw hv ?_
    cases e : tw_ps P K A nu (tw_V (100 * 40) f2) 8 v
    · exact tw_c0 (h0 f f2 rc2 I Q1 Q2 Q3 e)
    · refine tw_c1 ?_
      refine tw_xcr (s := 100) (t := key) (by omega) (by omega) (by omega) (fun f3 C => ?_)
      refine ⟨vp_in_nI hk (by omega), nm_r (e' := upd pr key 1) (by rw [nI_clamp (by omega), tw_b1]) (nm_r (nI_1 n) ?_)⟩
      exact h1 f f2 rc2 I Q1 Q2 Q3 e f3 C
  | succ d ih =>
    intro i f hi I
    refine ⟨i8, ?_⟩
    rw [c]
    refine br_f (nI_ge (by omega) (by omega)) ?_
    simp (disch := omega) only [forall_eq, nI_add, nI_clamp, tw_in, true_and, nI_1]
    exact ih (i + 1) _ (by omega) (tw_I_s I rfl)
theorem tw_yi106 {post : Int32 → SY → Prop} {key : Nat} (hK : tw_keys n KY pr ky) (hn : n < 12) (hk : key < 100) (hne : ∀ r, r < n → KY r ≠ key)
    (hp : ∀ a ky' va', tw_sh n key KY ky va a ky' va' → (∀ r, r < a → KY r < key) → ∀ va2, tw_I va' (40 * a) (fun i => va' (40 * 12 + i)) 40 va2 → post (nI (n + 1)) (tw_S vs (n + 1) P K A Z W nu (upd ky' a (nI key)) va2 dr kn)) :
    ∀ d k a ky' va', k + d = 12 → (a + k = n ∨ a = 0 ∨ KY (a - 1) < key) → tw_sh n key KY ky va a ky' va' → wY_insert_106 post (nI key) (d + 1) (nI a) (nI k) (nI vs) (nI n) (tw_f P) (tw_f K) (tw_f A) (tw_f Z) nu (tw_f W) ky' va' dr kn := by
  intro d
  induction d with
  | zero =>
    intro k a ky' va' hkd st S
    have an := S.1
    refine br_t (nI_le (a := 12) (by omega) (by omega)) ⟨vp_in_nI (by omega) (by omega), nm_r (e' := upd ky' a (nI key)) (by rw [nI_clamp (by omega)]) ?_⟩
    refine tw_ycp (s := 12) (t := a) (by omega) (by omega) (by omega) (fun f' C => ?_)
    refine nm_r (nI_1 n) (hp a ky' va' S (fun r hr => ?_) f' C)
    have st' : KY (a - 1) < key := by omega
    by_cases e : r = a - 1
    · rw [e]; exact st'
    · have := hK.2.2.1 r (a - 1) (by omega) (by omega); omega
  | succ d ih =>
    intro k a ky' va' hkd st S
    have an := S.1
    refine br_f (nI_ge (b := 12) (by omega) (by omega)) ?_
    by_cases a0 : a = 0
    · subst a0
      exact br_t (Int32.le_refl _) (nm_r (nI_1 k) (ih (k + 1) 0 ky' va' (by omega) (by omega) S))
    · obtain ⟨b, rfl⟩ : ∃ b, a = b + 1 := ⟨a - 1, by omega⟩
      have kb := hK.2.1 b (by omega)
      have eb : ky' b = nI (KY b) := ((S.2.2.1 b (by omega)).1).trans kb.1
      have e1 : nI (b + 1) - 1 = nI b := nI_pred b
      have cb : (nI b).toNatClampNeg = b := nI_clamp (by omega)
      refine br_f (nI_nle (by omega) (by omega)) ?_
      rw [e1]
      refine ⟨vp_in_nI (by omega) (by omega), ?_⟩
      rw [cb, eb]
      refine pk_le (KY b) key (fun g => nm_r (nI_1 k) (ih (k + 1) (b + 1) ky' va' (by omega) ?_ S)) (fun g => ?_)
      · have := hne b (by omega)
        right; right
        show KY b < key
        omega
      · refine ⟨vp_in_nI (by omega) (by omega), vp_in_nI (by omega) (by omega), nm_r (e' := upd ky' (b + 1) (ky' b)) (by rw [nI_clamp (by omega), eb]) ?_⟩
        refine tw_ycp (s := b) (t := b + 1) (by omega) (by omega) (by omega) (fun f' C => ?_)
        refine nm_r (pk_m1 b) (nm_r (nI_1 k) ?_)
        refine ih (k + 1) b _ f' (by omega) ?_ (tw_sh_s S hn g C)
        rcases st with q | q | q
        · left; omega
        · omega
        · exact absurd (show KY b < key from q) (by omega)
theorem tw_yins {post : Int32 → SY → Prop} {v key : Nat} {rc2 : Nat → Int32} {R : Nat → Nat → Int32} (hw : tw_wf vs P K A Z W) (hK : tw_keys n KY pr ky) (hn : n < 12) (hv : v < vs) (hk : key < 100) (hne : ∀ r, r < n → KY r ≠ key)
    (hpa : tw_path vs v P rc2) (hf : ∀ g, tw_I va (40 * 12 + 5 * v) dr 5 g → tw_fin vs v P K A Z W nu true rc2 (tw_Y (40 * 12) g) R)
    (h0 : tw_ps P K A nu R 8 v = false → ∀ g2 kn2, (∀ j, j < 40 * 12 → g2 j = va j) → post (-4) (tw_S vs n P K A Z W nu ky g2 dr kn2))
    (h1 : tw_ps P K A nu R 8 v = true → ∀ g2 kn2, (∀ w, w < vs → ∀ c, c < W w → tw_Y (40 * 12) g2 w c = R w c) → (∀ j, j < 40 * 12 → g2 j = va j) → ∀ a ky' va', tw_sh n key KY ky g2 a ky' va' → (∀ r, r < a → KY r < key) → ∀ va2, tw_I va' (40 * a) (fun i => va' (40 * 12 + i)) 40 va2 → post (nI (n + 1)) (tw_S vs (n + 1) P K A Z W nu (upd ky' a (nI key)) va2 dr kn2)) :
    ∀ d i g, i + d = 5 → tw_I va (40 * 12 + 5 * v) dr i g → wY_insert_46 post (nI v) (nI key) (nI vs) (nI n) (d + 1) (nI i) (tw_f P) (tw_f K) (tw_f A) (tw_f Z) nu (tw_f W) ky g dr kn := by
  have h8 := hw.2.1
  intro d
  induction d with
  | zero =>
    intro i g hi I
    have ei : i = 5 := by omega
    subst ei
    refine br_t (Int32.le_refl _) ?_
    refine tw_yca (q := 12) (b := true) (by omega) hw hv hpa (hf g I) (fun g2 kn2 Q1 Q2 => ?_)
    have fr : ∀ j, j < 40 * 12 → g2 j = va j := fun j hj => (Q2 j (Or.inl hj)).trans (I.2 j (by omega))
    have e0 : tw_ps P K A nu (tw_Y (40 * 12) g2) 8 v = tw_ps P K A nu R 8 v := tw_ps_c hw Q1 8 v hv
    refine tw_yps (r := 12) (by omega) hw hv ?_
    rw [e0]
    cases e : tw_ps P K A nu R 8 v
    · exact tw_c0 (h0 e g2 kn2 fr)
    · refine tw_c1 ⟨13, ?_⟩
      exact tw_yi106 hK hn hk hne (h1 e g2 kn2 Q1 fr) 12 0 n ky g2 rfl (by omega) tw_sh_0
  | succ d ih =>
    intro i g hi I
    refine br_f (nI_ge (b := 5) (by omega) (by omega)) ?_
    simp (disch := omega) only [forall_eq, tw_5, tw_480, nI_add, nI_clamp, tw_in, true_and, nI_1]
    exact ih (i + 1) _ (by omega) (tw_I_s I rfl)
end
theorem i_vc_insert {k : Nat} {u : SX} {v : SY} (I : i_Rel k u v) (hk : k + 5 ≤ 2560) (v1 : Int32) (v2 : Int32) : wpX_insert (fun r u' => wpY_insert (fun r' v' => r' = r ∧ i_Rel (k + 5) u' v') v v1 v2) u v1 v2 := by
  obtain ⟨vs, n, P, K, A, Z, W, KY, nu, dr, pr, ce, rc, ky, va, kn, rfl, rfl, hw, hK, hV⟩ := I
  have I' : i_Rel (k + 5) (tw_X vs n P K A Z W nu dr pr ce rc) (tw_S vs n P K A Z W nu ky va dr kn) := ⟨vs, n, P, K, A, Z, W, KY, nu, dr, pr, ce, rc, ky, va, kn, rfl, rfl, hw, hK, hV⟩
  have h8 := hw.2.1
  have h1 := hw.1
  have n12 := hK.1
  unfold wpX_insert
  dsimp only [tw_X]
  by_cases hv : ∃ v, v < vs ∧ v1 = nI v
  · obtain ⟨v, hv, rfl⟩ := hv
    refine tw_xV1 hv h8 ?_
    refine tw_c1 ?_
    by_cases hy : ∃ k, k < 100 ∧ v2 = nI k
    · obtain ⟨y, hy, rfl⟩ := hy
      have h5 := hw.2.2.1 v hv
      have yI : ∀ {post : Int32 → SY → Prop}, (∀ r, r < n → KY r = y → post (-3) (tw_S vs n P K A Z W nu ky va dr kn)) → ((∀ r, r < n → KY r ≠ y) → n = 12 → post (-2) (tw_S vs n P K A Z W nu ky va dr kn)) → ((∀ r, r < n → KY r ≠ y) → n ≠ 12 → ∃ d, wY_insert_46 post (nI v) (nI y) (nI vs) (nI n) d 0 (tw_f P) (tw_f K) (tw_f A) (tw_f Z) nu (tw_f W) ky va dr kn) → wpY_insert post (tw_S vs n P K A Z W nu ky va dr kn) (nI v) (nI y) := by
        intro post p3 p2 pi
        unfold wpY_insert
        dsimp only [tw_S]
        refine tw_yV1 hv h8 ?_
        refine tw_c1 ?_
        refine tw_yin1 (m := 100) hy (by omega) ?_
        refine tw_c1 ?_
        by_cases hr : ∃ r, r < n ∧ KY r = y
        · obtain ⟨r, hr, rfl⟩ := hr
          refine tw_fS hK hr ?_
          exact br_f (nI_pos (by omega)) (p3 r hr rfl)
        · have ny : ∀ q, q < n → KY q ≠ y := fun q hq e => hr ⟨q, hq, e⟩
          refine tw_fN hK (tw_nk hK hy ny) ?_
          exact br_t tw_m1 (pk_eq n 12 (fun e => p2 ny e) (fun e => pi ny e))
      refine tw_xK1 hy ?_
      refine tw_c1 ⟨vp_in_nI hy (by omega), ?_⟩
      rw [nI_clamp (by omega)]
      rcases hK.2.2.2 y hy with ⟨q1, r, hr, er⟩ | ⟨q1, ny⟩
      · refine br_f (by rw [q1]; exact tw_10) ?_
        exact yI (fun _ _ _ => ⟨rfl, I'⟩) (fun q _ => absurd er (q r hr)) (fun q _ => absurd er (q r hr))
      · refine br_t q1 ?_
        refine pk_eq n 12 (fun e12 => ?_) (fun e12 => ?_)
        · exact yI (fun r hr e => absurd e (ny r hr)) (fun _ _ => ⟨rfl, I'⟩) (fun _ q => absurd e12 q)
        · refine tw_xcb (r := 100) ⟨W v + 1, ?_⟩
          have fin : ∀ {f f2 rc2}, tw_I ce (100 * 40 + v * 5) dr (W v) f → tw_fin vs v P K A Z W nu true rc2 (tw_V (100 * 40) f) (tw_V (100 * 40) f2) → ∀ g, tw_I va (40 * 12 + 5 * v) dr 5 g → tw_fin vs v P K A Z W nu true rc2 (tw_Y (40 * 12) g) (tw_V (100 * 40) f2) := by
            intro f f2 rc2 F1 F2 g G
            refine tw_fin_c hw hv F2 (fun c hc => ?_) (fun q => absurd q (by decide))
            exact (F1.1 c hc).trans (G.1 c (by omega)).symm
          have low : ∀ {f f2 g2 : Nat → Int32}, tw_I ce (100 * 40 + v * 5) dr (W v) f → (∀ j, j < 100 * 40 ∨ 100 * 40 + 40 ≤ j → f2 j = f j) → (∀ j, j < 40 * 12 → g2 j = va j) → tw_vals vs n W KY f2 g2 := by
            intro f f2 g2 F1 F2 G r hr w hw' c hc
            have w5 := (hw.2.2.1 w hw').2
            have k100 := (hK.2.1 r hr).2
            rw [F2 _ (by omega), F1.2 _ (by omega), G _ (by omega)]
            exact hV r hr w hw' c hc
          refine tw_xins hw hv hy (fun f f2 rc2 F1 F2 F3 F4 e => ?_) (fun f f2 rc2 F1 F2 F3 F4 e f3 C => ?_) (W v) 0 ce (by omega) tw_I_0
          · refine yI (fun r hr e => absurd e (ny r hr)) (fun _ q => absurd q e12) (fun _ _ => ⟨6, ?_⟩)
            refine tw_yins hw hK (by omega) hv hy ny F2 (fin F1 F3) (fun _ g2 kn2 G => ?_) (fun q => absurd (e.symm.trans q) (by decide)) 5 0 va rfl tw_I_0
            exact ⟨rfl, vs, n, P, K, A, Z, W, KY, nu, dr, pr, f2, rc2, ky, g2, kn2, rfl, rfl, hw, hK, low F1 F4 G⟩
          · refine yI (fun r hr e => absurd e (ny r hr)) (fun _ q => absurd q e12) (fun _ _ => ⟨6, ?_⟩)
            refine tw_yins hw hK (by omega) hv hy ny F2 (fin F1 F3) (fun q => absurd (e.symm.trans q) (by decide)) (fun _ g2 kn2 G0 G a ky' va' S lo va2 D => ?_) 5 0 va rfl tw_I_0
            have lw := low F1 F4 G
            obtain ⟨s1, s2, s3, s4, s5⟩ := S
            refine ⟨rfl, vs, n + 1, P, K, A, Z, W, tw_ki KY a y, nu, dr, upd pr y 1, f3, rc2, upd ky' a (nI y), va2, kn2, rfl, rfl, hw, ?_, ?_⟩
            · refine tw_keys_i hK (by omega) hy s1 lo s2 (fun r hr => ?_) pk_us (fun r q1 q2 => ?_)
              · rw [pk_un (by omega)]; exact (s3 r hr).1
              · rw [pk_un (by omega)]; exact (s4 r q1 q2).1
            · refine tw_vals_i (B := 100 * 40) (D := 40 * 12) lw h8 (fun w hw' => (hw.2.2.1 w hw').2) s1 ny (fun i hi => C.1 i hi) (fun q q1 q2 i hi => C.2 _ (by omega)) (fun r hr => (hK.2.1 r hr).2) (fun r hr i hi => ?_) (fun i hi => ?_) (fun r q1 q2 i hi => ?_) (fun w hw' c hc => (G0 w hw' c hc).symm)
              · rw [D.2 _ (by omega)]; exact (s3 r hr).2 i hi
              · exact (D.1 i hi).trans (s5 i hi)
              · rw [D.2 _ (by omega)]; exact (s4 r q1 q2).2 i hi
    · refine tw_xK0 hy ?_
      refine tw_c0 ?_
      unfold wpY_insert
      dsimp only [tw_S]
      refine tw_yV1 hv h8 ?_
      refine tw_c1 ?_
      refine tw_yin0 (m := 100) (by omega) (by omega) hy ?_
      exact tw_c0 ⟨rfl, I'⟩
  · refine tw_xV0 h8 hv ?_
    refine tw_c0 ?_
    unfold wpY_insert
    dsimp only [tw_S]
    refine tw_yV0 h1 h8 hv ?_
    exact tw_c0 ⟨rfl, I'⟩
end
section
/-! SchemaTwins: update -/
theorem i_vc_update {k : Nat} {u : SX} {v : SY} (I : i_Rel k u v) (hk : k + 5 ≤ 2560) (v1 : Int32) (v2 : Int32) (v3 : Int32) (v4 : Int32) : wpX_update (fun r u' => wpY_update (fun r' v' => r' = r ∧ i_Rel (k + 5) u' v') v v1 v2 v3 v4) u v1 v2 v3 v4 := by
  obtain ⟨vs, n, P, K, A, Z, W, KY, nu, dr, pr, ce, rc, ky, va, kn, rfl, rfl, hw, hK, hV⟩ := I
  have I' : i_Rel (k + 5) (tw_X vs n P K A Z W nu dr pr ce rc) (tw_S vs n P K A Z W nu ky va dr kn) := ⟨vs, n, P, K, A, Z, W, KY, nu, dr, pr, ce, rc, ky, va, kn, rfl, rfl, hw, hK, hV⟩
  have h8 := hw.2.1
  have h1 := hw.1
  have n12 := hK.1
  have hW : ∀ v, v < vs → W v ≤ 5 := fun v hv => (hw.2.2.1 v hv).2
  unfold wpX_update
  dsimp only [tw_X]
  by_cases hv : ∃ v, v < vs ∧ v1 = nI v
  · obtain ⟨v, hv, rfl⟩ := hv
    have h5 := hw.2.2.1 v hv
    have i8 : vp_in (nI v) 8 := vp_in_nI (by omega) (by omega)
    by_cases hc : ∃ c, c < W v ∧ v3 = nI c
    · obtain ⟨c, hc, rfl⟩ := hc
      refine tw_xC1 hv h8 hc (hW v hv) ?_
      refine tw_c1 ?_
      by_cases hy : ∃ k, k < 100 ∧ v2 = nI k
      · obtain ⟨y, hy, rfl⟩ := hy
        refine tw_xK1 hy ?_
        refine tw_c1 ?_
        by_cases hr : ∃ r, r < n ∧ KY r = y
        · obtain ⟨r, hr, rfl⟩ := hr
          refine tw_xshC hw hK hV hv hr ?_
          cases e : tw_ps P K A nu (tw_Y (40 * r) va) 8 v
          · refine tw_c0 ?_
            unfold wpY_update
            dsimp only [tw_S]
            refine tw_yV1 hv h8 ?_
            refine tw_c1 ?_
            refine tw_yin1 (m := 100) hy (by omega) ?_
            refine tw_c1 ⟨i8, ?_⟩
            refine tw_yC1 (by omega) hc (hW v hv) ?_
            refine tw_c1 ?_
            refine tw_fS hK hr ?_
            refine br_f (nI_pos (by omega)) ?_
            refine tw_yps (by omega) hw hv ?_
            rw [e]
            exact tw_c0 ⟨rfl, I'⟩
          · refine tw_c1 ?_
            refine tw_xcr (s := KY r) (t := 100) (by omega) (by omega) (by omega) (fun f0 C0 => ?_)
            refine tw_xcb (r := 100) ?_
            rw [nI_add]
            refine ⟨vp_in_nI (by omega) (by omega), nm_r (e' := upd f0 (100 * 40 + v * 5 + c) v4) (by rw [nI_clamp (by omega)]) ?_⟩
            refine tw_xsp (r := 100) (b := false) (by omega) hw hv (fun f2 rc2 Q1 Q2 Q3 => ?_)
            refine tw_xps (r := 100) (by omega) hw hv ?_
            have fin : ∀ g0, tw_I va (40 * 12) (fun i => va (40 * r + i)) 40 g0 → tw_fin vs v P K A Z W nu false rc2 (tw_Y (40 * 12) (upd g0 (480 + 5 * v + c) v4)) (tw_V (100 * 40) f2) := by
              intro g0 G0
              have al : ∀ w, w < vs → ∀ d, d < W w → tw_V (100 * 40) (upd f0 (100 * 40 + v * 5 + c) v4) w d = tw_Y (40 * 12) (upd g0 (480 + 5 * v + c) v4) w d := by
                intro w hw' d hd
                have w5 := hW w hw'
                show upd f0 (100 * 40 + v * 5 + c) v4 (100 * 40 + w * 5 + d) = upd g0 (480 + 5 * v + c) v4 (40 * 12 + 5 * w + d)
                by_cases q : w = v ∧ d = c
                · obtain ⟨rfl, rfl⟩ := q
                  rw [pk_us]
                  exact pk_us.symm
                · rw [pk_un (by omega), pk_un (by omega), Nat.add_assoc, C0.1 (w * 5 + d) (by omega), Nat.add_assoc, G0.1 (5 * w + d) (by omega)]
                  show ce (KY r * 40 + (w * 5 + d)) = va (40 * r + (5 * w + d))
                  rw [← Nat.add_assoc, ← Nat.add_assoc]
                  exact hV r hr w hw' d hd
              exact tw_fin_c hw hv Q2 (al v hv) (fun _ => al)
            have low : ∀ g0 g2 : Nat → Int32, tw_I va (40 * 12) (fun i => va (40 * r + i)) 40 g0 → (∀ j, j < 40 * 12 ∨ 40 * 12 + 40 ≤ j → g2 j = upd g0 (480 + 5 * v + c) v4 j) → tw_vals vs n W KY f2 g2 := by
              intro g0 g2 G0 G2 q hq w hw' d hd
              have w5 := hW w hw'
              have k100 := (hK.2.1 q hq).2
              rw [Q3 _ (by omega), pk_un (by omega), C0.2 _ (by omega), G2 _ (by omega), pk_un (by omega), G0.2 _ (by omega)]
              exact hV q hq w hw' d hd
            have yU : ∀ {post : Int32 → SY → Prop}, (∀ g0, tw_I va (40 * 12) (fun i => va (40 * r + i)) 40 g0 → wpY_carry (fun u => wpY_isShown (fun b => (b = 0 → post (-4) u) ∧ (¬ b = 0 → wpY_copy (fun u => post 1 u) u (nI r) 12)) u 12 (nI v)) (tw_S vs n P K A Z W nu ky (upd g0 (480 + 5 * v + c) v4) dr kn) 12 (nI v) 0) → wpY_update post (tw_S vs n P K A Z W nu ky va dr kn) (nI v) (nI (KY r)) (nI c) v4 := by
              intro post h
              unfold wpY_update
              dsimp only [tw_S]
              refine tw_yV1 hv h8 ?_
              refine tw_c1 ?_
              refine tw_yin1 (m := 100) hy (by omega) ?_
              refine tw_c1 ⟨i8, ?_⟩
              refine tw_yC1 (by omega) hc (hW v hv) ?_
              refine tw_c1 ?_
              refine tw_fS hK hr ?_
              refine br_f (nI_pos (by omega)) ?_
              refine tw_yps (by omega) hw hv ?_
              rw [e]
              refine tw_c1 ?_
              refine tw_ycp (s := r) (t := 12) (by omega) (by omega) (by omega) (fun g0 G0 => ?_)
              simp (disch := omega) only [tw_S, forall_eq, tw_5, tw_480, nI_add, nI_clamp, tw_in, true_and]
              exact h g0 G0
            cases e2 : tw_ps P K A nu (tw_V (100 * 40) f2) 8 v
            · refine tw_c0 (yU (fun g0 G0 => ?_))
              refine tw_yca (q := 12) (b := false) (by omega) hw hv Q1 (fin g0 G0) (fun g2 kn2 R1 R2 => ?_)
              have e0 : tw_ps P K A nu (tw_Y (40 * 12) g2) 8 v = false := (tw_ps_c hw R1 8 v hv).trans e2
              refine tw_yps (r := 12) (by omega) hw hv ?_
              rw [e0]
              exact tw_c0 ⟨rfl, vs, n, P, K, A, Z, W, KY, nu, dr, pr, f2, rc2, ky, g2, kn2, rfl, rfl, hw, hK, low g0 g2 G0 R2⟩
            · refine tw_c1 ?_
              refine tw_xcr (s := 100) (t := KY r) (by omega) (by omega) (by omega) (fun f3 C3 => ?_)
              refine yU (fun g0 G0 => ?_)
              refine tw_yca (q := 12) (b := false) (by omega) hw hv Q1 (fin g0 G0) (fun g2 kn2 R1 R2 => ?_)
              have e0 : tw_ps P K A nu (tw_Y (40 * 12) g2) 8 v = true := (tw_ps_c hw R1 8 v hv).trans e2
              refine tw_yps (r := 12) (by omega) hw hv ?_
              rw [e0]
              refine tw_c1 ?_
              refine tw_ycp (s := 12) (t := r) (by omega) (by omega) (by omega) (fun g3 D3 => ?_)
              refine ⟨rfl, vs, n, P, K, A, Z, W, KY, nu, dr, pr, f3, rc2, ky, g3, kn2, rfl, rfl, hw, hK, ?_⟩
              exact tw_vals_u (B := 100 * 40) (D := 40 * 12) (low g0 g2 G0 R2) h8 hW hK.2.2.1 (fun q hq => (hK.2.1 q hq).2) hr (fun i hi => C3.1 i hi) (fun q q1 q2 i hi => C3.2 _ (by omega)) (fun q q1 q2 i hi => D3.2 _ (by omega)) (fun i hi => D3.1 i hi) n12 (fun w hw' d hd => (R1 w hw' d hd).symm)
        · have ny : ∀ q, q < n → KY q ≠ y := fun q hq e => hr ⟨q, hq, e⟩
          refine tw_xshB hw hK hv (tw_nk hK hy ny) ?_
          refine tw_c0 ?_
          unfold wpY_update
          dsimp only [tw_S]
          refine tw_yV1 hv h8 ?_
          refine tw_c1 ?_
          refine tw_yin1 (m := 100) hy (by omega) ?_
          refine tw_c1 ⟨i8, ?_⟩
          refine tw_yC1 (by omega) hc (hW v hv) ?_
          refine tw_c1 ?_
          refine tw_fN hK (tw_nk hK hy ny) ?_
          exact br_t tw_m1 ⟨rfl, I'⟩
      · refine tw_xK0 hy ?_
        refine tw_c0 ?_
        unfold wpY_update
        dsimp only [tw_S]
        refine tw_yV1 hv h8 ?_
        refine tw_c1 ?_
        refine tw_yin0 (m := 100) (by omega) (by omega) hy ?_
        exact tw_c0 ⟨rfl, I'⟩
    · have nc : ¬ ∃ w, w < vs ∧ nI v = nI w ∧ ∃ c, c < W w ∧ v3 = nI c := by
        rintro ⟨w, hw', e, h⟩
        rw [(nI_eq (by omega) (by omega)).mp e] at hc
        exact hc h
      refine tw_xC0 h8 hW nc ?_
      refine tw_c0 ?_
      unfold wpY_update
      dsimp only [tw_S]
      refine tw_yV1 hv h8 ?_
      refine tw_c1 ?_
      by_cases hy : ∃ k, k < 100 ∧ v2 = nI k
      · obtain ⟨y, hy, rfl⟩ := hy
        refine tw_yin1 (m := 100) hy (by omega) ?_
        refine tw_c1 ⟨i8, ?_⟩
        refine tw_yC0 (by omega) h5.1 h5.2 hc ?_
        exact tw_c0 ⟨rfl, I'⟩
      · refine tw_yin0 (m := 100) (by omega) (by omega) hy ?_
        exact tw_c0 ⟨rfl, I'⟩
  · have nc : ¬ ∃ w, w < vs ∧ v1 = nI w ∧ ∃ c, c < W w ∧ v3 = nI c := fun ⟨w, hw', e, _⟩ => hv ⟨w, hw', e⟩
    refine tw_xC0 h8 hW nc ?_
    refine tw_c0 ?_
    unfold wpY_update
    dsimp only [tw_S]
    refine tw_yV0 h1 h8 hv ?_
    exact tw_c0 ⟨rfl, I'⟩
end
