section
-- rows pasted from kit/rows
theorem pk_us {f : Nat → Int32} {k : Nat} {x : Int32} : upd f k x k = x := if_pos rfl
theorem pk_un {f : Nat → Int32} {k j : Nat} {x : Int32} (h : j ≠ k) : upd f k x j = f j := if_neg h
theorem pk_sub {a b : Nat} (h : b ≤ a) : nI a - nI b = nI (a - b) := by
  obtain ⟨c, rfl⟩ : ∃ c, a = c + b := ⟨a - b, by omega⟩
  rw [← nI_add, Int32.add_sub_cancel, Nat.add_sub_cancel]
theorem pk_m1 (n : Nat) : nI (n + 1) + (-1) = nI n := by
  rw [← nI_1, Int32.add_assoc, show (1 : Int32) + (-1) = 0 from rfl, Int32.add_zero]
theorem pk_mul (a b : Nat) : nI a * nI b = nI (a * b) := (Int32.ofNat_mul a b).symm
theorem pk_ix (x : Int32) {n : Nat} (hn : n < 2 ^ 31) : x < 0 ∨ nI n ≤ x ∨ ∃ j : Nat, j < n ∧ x = nI j := by
  by_cases h : x < 0
  · exact Or.inl h
  · obtain ⟨j, hj, rfl⟩ := nI_of h
    by_cases h2 : j < n
    · exact Or.inr (Or.inr ⟨j, h2, rfl⟩)
    · exact Or.inr (Or.inl (nI_le (by omega) hj))
theorem pk_le {x y : Int32} {A B : Prop} (a b : Nat) (f : a ≤ b → A) (g : b < a → B) (hx : x = nI a := by rfl) (hy : y = nI b := by rfl) (ha : a < 2 ^ 31 := by omega) (hb : b < 2 ^ 31 := by omega) : (x ≤ y → A) ∧ (¬ x ≤ y → B) := by
  subst hx hy
  rw [nI_leI ha hb]
  exact ⟨f, fun z => g (by omega)⟩
theorem pk_lt {x y : Int32} {A B : Prop} (a b : Nat) (f : a < b → A) (g : b ≤ a → B) (hx : x = nI a := by rfl) (hy : y = nI b := by rfl) (ha : a < 2 ^ 31 := by omega) (hb : b < 2 ^ 31 := by omega) : (x < y → A) ∧ (¬ x < y → B) := by
  subst hx hy
  rw [nI_ltI ha hb]
  exact ⟨f, fun z => g (by omega)⟩
theorem pk_eq {x y : Int32} {A B : Prop} (a b : Nat) (f : a = b → A) (g : a ≠ b → B) (hx : x = nI a := by rfl) (hy : y = nI b := by rfl) (ha : a < 2 ^ 31 := by omega) (hb : b < 2 ^ 31 := by omega) : (x = y → A) ∧ (¬ x = y → B) := by
  subst hx hy
  rw [nI_eq ha hb]
  exact ⟨f, g⟩
theorem pk_in {x : Int32} (n N : Nat) (h : n < N) (hx : x = nI n := by rfl) (hN : N < 2 ^ 31 := by omega) : vp_in x N := by
  subst hx
  exact vp_in_nI h hN
theorem pk_cl {x : Int32} (n : Nat) (hx : x = nI n := by rfl) (h : n < 2 ^ 31 := by omega) : x.toNatClampNeg = n := by
  subst hx
  exact nI_clamp h
def bt (x : Int32) (i : Nat) : Bool := x.toBitVec.getLsbD i
theorem b_ext {x y : Int32} (h : ∀ i, i < 32 → bt x i = bt y i) : x = y := Int32.toBitVec_inj.mp (BitVec.eq_of_getLsbD_eq (fun i hi => h i hi))
theorem b_or (x y : Int32) (i : Nat) : bt (x ||| y) i = (bt x i || bt y i) := by unfold bt; rw [Int32.toBitVec_or, BitVec.getLsbD_or]
theorem b_and (x y : Int32) (i : Nat) : bt (x &&& y) i = (bt x i && bt y i) := by unfold bt; rw [Int32.toBitVec_and, BitVec.getLsbD_and]
theorem b_big {x : Int32} {i : Nat} (h : 32 ≤ i) : bt x i = false := BitVec.getLsbD_of_ge _ _ h
theorem b_0 (i : Nat) : bt 0 i = false := BitVec.getLsbD_zero
theorem s_l : ∀ n, n < 32 → ((nI n &&& 31).toBitVec.smod 32).toNat = n := by decide +kernel
theorem b_shl (n : Nat) (hn : n < 32) (x : Int32) {i : Nat} (hi : i < 32) : bt (x <<< (nI n &&& 31)) i = (decide (n ≤ i) && bt x (i - n)) := by
  unfold bt
  rw [Int32.toBitVec_shiftLeft]
  show (x.toBitVec <<< ((nI n &&& 31).toBitVec.smod 32).toNat).getLsbD i = _
  rw [s_l n hn, BitVec.getLsbD_shiftLeft]
  rcases Nat.lt_or_ge i n with h | h
  · simp [h, Nat.not_le.mpr h]
  · simp [hi, h, Nat.not_lt.mpr h]
theorem b_sshr (n : Nat) (hn : n < 32) (x : Int32) {i : Nat} (hi : i < 32) : bt (x >>> (nI n &&& 31)) i = if n + i < 32 then bt x (n + i) else bt x 31 := by
  unfold bt
  rw [Int32.toBitVec_shiftRight]
  show (x.toBitVec.sshiftRight ((nI n &&& 31).toBitVec.smod 32).toNat).getLsbD i = _
  rw [s_l n hn, BitVec.getLsbD_sshiftRight, BitVec.msb_eq_getLsbD_last]
  simp [hi]
end
section
-- bits of an int, as a set of numbers below 32
theorem ig_bt1 (i : Nat) : bt 1 i = decide (i = 0) := by
  rcases Nat.lt_or_ge i 32 with h | h
  · exact (by decide +kernel : ∀ i, i < 32 → bt 1 i = decide (i = 0)) i h
  · rw [b_big h, decide_eq_false (by omega)]
theorem ig_tst (x : Int32) {k : Nat} (hk : k < 32) : ((x >>> (nI k &&& 31)) &&& 1) = 0 ↔ bt x k = false := by
  constructor
  · intro h
    have h2 : bt ((x >>> (nI k &&& 31)) &&& 1) 0 = bt 0 0 := by rw [h]
    rw [b_and, b_sshr k hk x (by omega), ig_bt1, b_0, if_pos (by omega)] at h2
    simpa using h2
  · intro h
    apply b_ext
    intro i hi
    rw [b_and, b_sshr k hk x hi, ig_bt1, b_0]
    by_cases h0 : i = 0
    · subst h0
      rw [if_pos (by omega)]
      simp [h]
    · simp [h0]
theorem ig_tst1 (x : Int32) {k : Nat} (hk : k < 32) (h : bt x k = true) : ¬ ((x >>> (nI k &&& 31)) &&& 1) = 0 := by
  rw [ig_tst x hk, h]
  exact Bool.noConfusion
theorem ig_tst0 (x : Int32) {k : Nat} (hk : k < 32) (h : ¬ bt x k = true) : ((x >>> (nI k &&& 31)) &&& 1) = 0 := (ig_tst x hk).mpr (Bool.eq_false_iff.mpr h)
theorem ig_set (x : Int32) {k j : Nat} (hk : k < 32) (hj : j < 32) : bt (x ||| ((1 : Int32) <<< (nI k &&& 31))) j = true ↔ bt x j = true ∨ j = k := by
  rw [b_or, b_shl k hk 1 hj, ig_bt1, Bool.or_eq_true, Bool.and_eq_true, decide_eq_true_iff, decide_eq_true_iff]
  constructor
  · rintro (h | ⟨h, h'⟩)
    · exact Or.inl h
    · exact Or.inr (by omega)
  · rintro (h | h)
    · exact Or.inl h
    · exact Or.inr ⟨by omega, by omega⟩
theorem ig_fill (x : Int32) {j : Nat} (hj : j < 32) : bt (x ||| (-x)) j = true ↔ ∃ i, i ≤ j ∧ bt x i = true := by
  rw [b_or]
  unfold bt
  rw [Int32.toBitVec_neg, BitVec.getLsbD_neg]
  constructor
  · intro h
    by_cases h2 : x.toBitVec.getLsbD j = true
    · exact ⟨j, Nat.le_refl j, h2⟩
    · by_cases h3 : ∃ i, i < j ∧ x.toBitVec.getLsbD i = true
      · obtain ⟨i, hi, hb⟩ := h3
        exact ⟨i, by omega, hb⟩
      · exfalso
        rw [Bool.eq_false_iff.mpr h2, decide_eq_false h3] at h
        simp at h
  · rintro ⟨i, hi, hb⟩
    by_cases h2 : x.toBitVec.getLsbD j = true
    · rw [h2]; rfl
    · have h3 : ∃ i, i < j ∧ x.toBitVec.getLsbD i = true := by
        refine ⟨i, ?_, hb⟩
        rcases Nat.lt_or_ge i j with h | h
        · exact h
        · have e : i = j := by omega
          rw [e] at hb
          exact absurd hb h2
      rw [Bool.eq_false_iff.mpr h2, decide_eq_true h3, decide_eq_true hj]
      rfl
-- one step of a set, over a rest F' that asks F
theorem ig_sx {sz : Nat} {R R' F F' : Nat → Prop} (hF : ∀ q, F' q ↔ ∃ q', q ≤ q' ∧ q' ≤ sz ∧ F q') (hR : ∀ k, k ≤ sz → (R' k ↔ ∃ j, j ≤ k ∧ R j)) : (∃ k, k ≤ sz ∧ R k ∧ F' k) ↔ (∃ k, k ≤ sz ∧ R' k ∧ F k) := by
  constructor
  · rintro ⟨k, _, hr, hf⟩
    obtain ⟨q, h1, h2, h3⟩ := (hF k).mp hf
    exact ⟨q, h2, (hR q h2).mpr ⟨k, h1, hr⟩, h3⟩
  · rintro ⟨k, hk, hr, hf⟩
    obtain ⟨j, h1, h2⟩ := (hR k hk).mp hr
    exact ⟨j, by omega, h2, (hF j).mpr ⟨k, h1, hk, hf⟩⟩
theorem ig_sn {sz : Nat} {R R' F F' m : Nat → Prop} (hF : ∀ q, F' q ↔ q < sz ∧ m q ∧ F (q + 1)) (hR : ∀ k, k ≤ sz → (R' k ↔ ∃ i, i < sz ∧ k = i + 1 ∧ R i ∧ m i)) : (∃ k, k ≤ sz ∧ R k ∧ F' k) ↔ (∃ k, k ≤ sz ∧ R' k ∧ F k) := by
  constructor
  · rintro ⟨k, _, hr, hf⟩
    obtain ⟨h1, h2, h3⟩ := (hF k).mp hf
    exact ⟨k + 1, h1, (hR (k + 1) h1).mpr ⟨k, h1, rfl, hr, h2⟩, h3⟩
  · rintro ⟨k, hk, hr, hf⟩
    obtain ⟨i, h1, rfl, h3, h4⟩ := (hR k hk).mp hr
    exact ⟨i, by omega, h3, (hF i).mpr ⟨h1, h4, hf⟩⟩
theorem ig_sy {sz q : Nat} {F F' : Nat → Prop} (hF : ∀ q, F' q ↔ ∃ q', q ≤ q' ∧ q' ≤ sz ∧ F q') (hq : q ≤ sz) : F' q ↔ F q ∨ (q < sz ∧ F' (q + 1)) := by
  constructor
  · intro h
    obtain ⟨q', h1, h2, h3⟩ := (hF q).mp h
    by_cases e : q = q'
    · subst e
      exact Or.inl h3
    · exact Or.inr ⟨by omega, (hF (q + 1)).mpr ⟨q', by omega, h2, h3⟩⟩
  · rintro (h | ⟨h, h'⟩)
    · exact (hF q).mpr ⟨q, Nat.le_refl q, hq, h⟩
    · obtain ⟨q', h1, h2, h3⟩ := (hF (q + 1)).mp h'
      exact (hF q).mpr ⟨q', by omega, h2, h3⟩
theorem ig_e1 {k sz j : Nat} {A : Prop} {Q : Nat → Prop} (h : ¬ Q k) : (A ∨ ∃ i, k + 1 ≤ i ∧ i < sz ∧ j = i + 1 ∧ Q i) ↔ (A ∨ ∃ i, k ≤ i ∧ i < sz ∧ j = i + 1 ∧ Q i) := by
  constructor
  · rintro (a | ⟨i, h1, h2, h3, h4⟩)
    · exact Or.inl a
    · exact Or.inr ⟨i, by omega, h2, h3, h4⟩
  · rintro (a | ⟨i, h1, h2, h3, h4⟩)
    · exact Or.inl a
    · by_cases e : k = i
      · subst e
        exact absurd h4 h
      · exact Or.inr ⟨i, by omega, h2, h3, h4⟩
theorem ig_e2 {k sz j : Nat} {A A' : Prop} {Q : Nat → Prop} (hk : k < sz) (h : Q k) (hA : A' ↔ A ∨ j = k + 1) : (A' ∨ ∃ i, k + 1 ≤ i ∧ i < sz ∧ j = i + 1 ∧ Q i) ↔ (A ∨ ∃ i, k ≤ i ∧ i < sz ∧ j = i + 1 ∧ Q i) := by
  rw [hA]
  constructor
  · rintro ((a | a) | ⟨i, h1, h2, h3, h4⟩)
    · exact Or.inl a
    · exact Or.inr ⟨k, Nat.le_refl k, hk, a, h⟩
    · exact Or.inr ⟨i, by omega, h2, h3, h4⟩
  · rintro (a | ⟨i, h1, h2, h3, h4⟩)
    · exact Or.inl (Or.inl a)
    · by_cases e : k = i
      · subst e
        exact Or.inl (Or.inr h3)
      · exact Or.inr ⟨i, by omega, h2, h3, h4⟩
-- the picture: a part's last d characters (behind them stands e) fit the letters from q on
def ig_ft (g l : Nat → Int32) (sz e : Nat) : Nat → Nat → Prop
  | 0, q => q = sz
  | d + 1, q => (g (e - (d + 1)) = 7 ∧ ∃ q', q ≤ q' ∧ q' ≤ sz ∧ ig_ft g l sz e d q') ∨ (g (e - (d + 1)) ≠ 7 ∧ q < sz ∧ (g (e - (d + 1)) = 8 ∨ g (e - (d + 1)) = l q) ∧ ig_ft g l sz e d (q + 1))
theorem ig_ft7 {g l : Nat → Int32} {sz e d i : Nat} (hi : i + (d + 1) = e) (h : g i = 7) (q : Nat) : ig_ft g l sz e (d + 1) q ↔ ∃ q', q ≤ q' ∧ q' ≤ sz ∧ ig_ft g l sz e d q' := by
  have e1 : e - (d + 1) = i := by omega
  rw [ig_ft, e1]
  constructor
  · rintro (⟨_, h2⟩ | ⟨h2, _⟩)
    · exact h2
    · exact absurd h h2
  · intro h2
    exact Or.inl ⟨h, h2⟩
theorem ig_ftn {g l : Nat → Int32} {sz e d i : Nat} (hi : i + (d + 1) = e) (h : ¬ g i = 7) (q : Nat) : ig_ft g l sz e (d + 1) q ↔ q < sz ∧ (g i = 8 ∨ g i = l q) ∧ ig_ft g l sz e d (q + 1) := by
  have e1 : e - (d + 1) = i := by omega
  rw [ig_ft, e1]
  constructor
  · rintro (⟨h2, _⟩ | ⟨_, h2⟩)
    · exact absurd h2 h
    · exact h2
  · intro h2
    exact Or.inr ⟨h, h2⟩
def ig_pf (G L NL : Nat → Int32) (s t n : Nat) : Prop := ig_ft G (fun k => L (n * 8 + k)) (NL n).toNatClampNeg t (t - s) 0
def ig_al (G L NL : Nat → Int32) (n : Nat) : List (Nat × Nat) → Nat → Prop
  | [], q => q = n
  | p :: ls, q => (G p.1 = 10 ∧ ∃ q', q ≤ q' ∧ q' ≤ n ∧ ig_al G L NL n ls q') ∨ (G p.1 ≠ 10 ∧ q < n ∧ ig_pf G L NL p.1 p.2 q ∧ ig_al G L NL n ls (q + 1))
theorem ig_al7 {G L NL : Nat → Int32} {n s t : Nat} {ls : List (Nat × Nat)} (h : G s = 10) (q : Nat) : ig_al G L NL n ((s, t) :: ls) q ↔ ∃ q', q ≤ q' ∧ q' ≤ n ∧ ig_al G L NL n ls q' := by
  rw [ig_al]
  constructor
  · rintro (⟨_, h2⟩ | ⟨h2, _⟩)
    · exact h2
    · exact absurd h h2
  · intro h2
    exact Or.inl ⟨h, h2⟩
theorem ig_aln {G L NL : Nat → Int32} {n s t : Nat} {ls : List (Nat × Nat)} (h : ¬ G s = 10) (q : Nat) : ig_al G L NL n ((s, t) :: ls) q ↔ q < n ∧ ig_pf G L NL s t q ∧ ig_al G L NL n ls (q + 1) := by
  rw [ig_al]
  constructor
  · rintro (⟨h2, _⟩ | ⟨_, h2⟩)
    · exact absurd h2 h
    · exact h2
  · intro h2
    exact Or.inr ⟨h, h2⟩
def ig_cp (G : Nat → Int32) (e : Nat) : Nat → Nat → List (Nat × Nat)
  | 0, _ => []
  | d + 1, s => if d = 0 ∨ G (e - d) = 9 then (s, e - d) :: ig_cp G e d (e - d + 1) else ig_cp G e d s
theorem ig_cpc {G : Nat → Int32} {e d s i : Nat} (hi : i + d = e) (h : d = 0 ∨ G i = 9) : ig_cp G e (d + 1) s = (s, i) :: ig_cp G e d (i + 1) := by
  have e1 : e - d = i := by omega
  rw [ig_cp, e1, if_pos h]
theorem ig_cpn {G : Nat → Int32} {e d s i : Nat} (hi : i + d = e) (h0 : 0 < d) (h : ¬ G i = 9) : ig_cp G e (d + 1) s = ig_cp G e d s := by
  have e1 : e - d = i := by omega
  rw [ig_cp, e1, if_neg]
  rintro (h1 | h1)
  · omega
  · exact h h1
/-- with no slash there is one part -/
theorem ig_cp1 {G : Nat → Int32} {e : Nat} (s : Nat) : ∀ d, (∀ i, i < e → e < i + d → ¬ G i = 9) → d ≤ e + 1 → 0 < d → ig_cp G e d s = [(s, e)] := by
  intro d
  induction d with
  | zero => intro _ _ h; omega
  | succ d ih =>
    intro h hd _
    rcases Nat.eq_zero_or_pos d with h0 | h0
    · subst h0
      rw [ig_cpc (i := e) (by omega) (Or.inl rfl)]
      rfl
    · rw [ig_cpn (i := e - d) (by omega) h0 (h (e - d) (by omega) (by omega))]
      exact ih (fun i h1 h2 => h i h1 (by omega)) (by omega) h0
/-- a slash makes a second part -/
theorem ig_cp0 {G : Nat → Int32} {e : Nat} : ∀ d s, 0 < d → 1 ≤ (ig_cp G e d s).length := by
  intro d
  induction d with
  | zero => intro _ h; omega
  | succ d ih =>
    intro s _
    rw [ig_cp]
    split
    · simp
    · rcases Nat.eq_zero_or_pos d with h0 | h0
      · rename_i h
        exact absurd (Or.inl h0) h
      · exact ih s h0
theorem ig_cp2 {G : Nat → Int32} {e j : Nat} (hj : j < e) (h9 : G j = 9) : ∀ d s, e < j + d → 2 ≤ (ig_cp G e d s).length := by
  intro d
  induction d with
  | zero => intro _ h; omega
  | succ d ih =>
    intro s h
    rw [ig_cp]
    by_cases hc : d = 0 ∨ G (e - d) = 9
    · rw [if_pos hc, List.length_cons]
      have := ig_cp0 (G := G) (e := e) d (e - d + 1) (by omega)
      omega
    · rw [if_neg hc]
      refine ih s ?_
      rcases Nat.lt_or_ge e (j + d) with h1 | h1
      · exact h1
      · exfalso
        have e1 : e - d = j := by omega
        rw [e1] at hc
        exact hc (Or.inr h9)
theorem ig_cpL {G : Nat → Int32} {e : Nat} : ∀ d s, (ig_cp G e d s).length ≤ d := by
  intro d
  induction d with
  | zero => intro _; exact Nat.le_refl 0
  | succ d ih =>
    intro s
    rw [ig_cp]
    split
    · rw [List.length_cons]
      have := ig_cp0 (G := G) (e := e) d (e - d + 1)
      have := ih (e - d + 1)
      omega
    · have := ih s
      omega
end
