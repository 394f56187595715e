section
-- rows pasted from kit/rows
theorem pk_us {f : Nat → Int32} {k : Nat} {x : Int32} : upd f k x k = x := if_pos rfl
theorem pk_un {f : Nat → Int32} {k j : Nat} {x : Int32} (h : j ≠ k) : upd f k x j = f j := if_neg h
theorem pk_sub {a b : Nat} (h : b ≤ a) : nI a - nI b = nI (a - b) := by
  obtain ⟨c, rfl⟩ : ∃ c, a = c + b := ⟨a - b, by omega⟩
  rw [← nI_add, Int32.add_sub_cancel, Nat.add_sub_cancel]
theorem pk_m1 (n : Nat) : nI (n + 1) + (-1) = nI n := by
  rw [← nI_1, Int32.add_assoc, show (1 : Int32) + (-1) = 0 from rfl, Int32.add_zero]
theorem pk_mul (a b : Nat) : nI a * nI b = nI (a * b) := (Int32.ofNat_mul a b).symm
theorem pk_ix (x : Int32) {n : Nat} (hn : n < 2 ^ 31) : x < 0 ∨ nI n ≤ x ∨ ∃ j : Nat, j < n ∧ x = nI j := by
  by_cases h : x < 0
  · exact Or.inl h
  · obtain ⟨j, hj, rfl⟩ := nI_of h
    by_cases h2 : j < n
    · exact Or.inr (Or.inr ⟨j, h2, rfl⟩)
    · exact Or.inr (Or.inl (nI_le (by omega) hj))
theorem pk_le {x y : Int32} {A B : Prop} (a b : Nat) (f : a ≤ b → A) (g : b < a → B) (hx : x = nI a := by rfl) (hy : y = nI b := by rfl) (ha : a < 2 ^ 31 := by omega) (hb : b < 2 ^ 31 := by omega) : (x ≤ y → A) ∧ (¬ x ≤ y → B) := by
  subst hx hy
  rw [nI_leI ha hb]
  exact ⟨f, fun z => g (by omega)⟩
theorem pk_lt {x y : Int32} {A B : Prop} (a b : Nat) (f : a < b → A) (g : b ≤ a → B) (hx : x = nI a := by rfl) (hy : y = nI b := by rfl) (ha : a < 2 ^ 31 := by omega) (hb : b < 2 ^ 31 := by omega) : (x < y → A) ∧ (¬ x < y → B) := by
  subst hx hy
  rw [nI_ltI ha hb]
  exact ⟨f, fun z => g (by omega)⟩
theorem pk_eq {x y : Int32} {A B : Prop} (a b : Nat) (f : a = b → A) (g : a ≠ b → B) (hx : x = nI a := by rfl) (hy : y = nI b := by rfl) (ha : a < 2 ^ 31 := by omega) (hb : b < 2 ^ 31 := by omega) : (x = y → A) ∧ (¬ x = y → B) := by
  subst hx hy
  rw [nI_eq ha hb]
  exact ⟨f, g⟩
theorem pk_in {x : Int32} (n N : Nat) (h : n < N) (hx : x = nI n := by rfl) (hN : N < 2 ^ 31 := by omega) : vp_in x N := by
  subst hx
  exact vp_in_nI h hN
theorem pk_cl {x : Int32} (n : Nat) (hx : x = nI n := by rfl) (h : n < 2 ^ 31 := by omega) : x.toNatClampNeg = n := by
  subst hx
  exact nI_clamp h
def bt (x : Int32) (i : Nat) : Bool := x.toBitVec.getLsbD i
theorem b_ext {x y : Int32} (h : ∀ i, i < 32 → bt x i = bt y i) : x = y := Int32.toBitVec_inj.mp (BitVec.eq_of_getLsbD_eq (fun i hi => h i hi))
theorem b_or (x y : Int32) (i : Nat) : bt (x ||| y) i = (bt x i || bt y i) := by unfold bt; rw [Int32.toBitVec_or, BitVec.getLsbD_or]
theorem b_and (x y : Int32) (i : Nat) : bt (x &&& y) i = (bt x i && bt y i) := by unfold bt; rw [Int32.toBitVec_and, BitVec.getLsbD_and]
theorem b_big {x : Int32} {i : Nat} (h : 32 ≤ i) : bt x i = false := BitVec.getLsbD_of_ge _ _ h
theorem b_0 (i : Nat) : bt 0 i = false := BitVec.getLsbD_zero
theorem s_l : ∀ n, n < 32 → ((nI n &&& 31).toBitVec.smod 32).toNat = n := by decide +kernel
theorem b_shl (n : Nat) (hn : n < 32) (x : Int32) {i : Nat} (hi : i < 32) : bt (x <<< (nI n &&& 31)) i = (decide (n ≤ i) && bt x (i - n)) := by
  unfold bt
  rw [Int32.toBitVec_shiftLeft]
  show (x.toBitVec <<< ((nI n &&& 31).toBitVec.smod 32).toNat).getLsbD i = _
  rw [s_l n hn, BitVec.getLsbD_shiftLeft]
  rcases Nat.lt_or_ge i n with h | h
  · simp [h, Nat.not_le.mpr h]
  · simp [hi, h, Nat.not_lt.mpr h]
theorem b_sshr (n : Nat) (hn : n < 32) (x : Int32) {i : Nat} (hi : i < 32) : bt (x >>> (nI n &&& 31)) i = if n + i < 32 then bt x (n + i) else bt x 31 := by
  unfold bt
  rw [Int32.toBitVec_shiftRight]
  show (x.toBitVec.sshiftRight ((nI n &&& 31).toBitVec.smod 32).toNat).getLsbD i = _
  rw [s_l n hn, BitVec.getLsbD_sshiftRight, BitVec.msb_eq_getLsbD_last]
  simp [hi]
end
section
-- bits of an int, as a set of numbers below 32
theorem ig_bt1 (i : Nat) : bt 1 i = decide (i = 0) := by
  rcases Nat.lt_or_ge i 32 with h | h
  · exact (by decide +kernel : ∀ i, i < 32 → bt 1 i = decide (i = 0)) i h
  · rw [b_big h, decide_eq_false (by omega)]
theorem ig_tst (x : Int32) {k : Nat} (hk : k < 32) : ((x >>> (nI k &&& 31)) &&& 1) = 0 ↔ bt x k = false := by
  constructor
  · intro h
    have h2 : bt ((x >>> (nI k &&& 31)) &&& 1) 0 = bt 0 0 := by rw [h]
    rw [b_and, b_sshr k hk x (by omega), ig_bt1, b_0, if_pos (by omega)] at h2
    simpa using h2
  · intro h
    apply b_ext
    intro i hi
    rw [b_and, b_sshr k hk x hi, ig_bt1, b_0]
    by_cases h0 : i = 0
    · subst h0
      rw [if_pos (by omega)]
      simp [h]
    · simp [h0]
theorem ig_tst1 (x : Int32) {k : Nat} (hk : k < 32) (h : bt x k = true) : ¬ ((x >>> (nI k &&& 31)) &&& 1) = 0 := by
  rw [ig_tst x hk, h]
  exact Bool.noConfusion
theorem ig_tst0 (x : Int32) {k : Nat} (hk : k < 32) (h : ¬ bt x k = true) : ((x >>> (nI k &&& 31)) &&& 1) = 0 := (ig_tst x hk).mpr (Bool.eq_false_iff.mpr h)
theorem ig_set (x : Int32) {k j : Nat} (hk : k < 32) (hj : j < 32) : bt (x ||| ((1 : Int32) <<< (nI k &&& 31))) j = true ↔ bt x j = true ∨ j = k := by
  rw [b_or, b_shl k hk 1 hj, ig_bt1, Bool.or_eq_true, Bool.and_eq_true, decide_eq_true_iff, decide_eq_true_iff]
  constructor
  · rintro (h | ⟨h, h'⟩)
    · exact Or.inl h
    · exact Or.inr (by omega)
  · rintro (h | h)
    · exact Or.inl h
    · exact Or.inr ⟨by omega, by omega⟩
theorem ig_fill (x : Int32) {j : Nat} (hj : j < 32) : bt (x ||| (-x)) j = true ↔ ∃ i, i ≤ j ∧ bt x i = true := by
  rw [b_or]
  unfold bt
  rw [Int32.toBitVec_neg, BitVec.getLsbD_neg]
  constructor
  · intro h
    by_cases h2 : x.toBitVec.getLsbD j = true
    · exact ⟨j, Nat.le_refl j, h2⟩
    · by_cases h3 : ∃ i, i < j ∧ x.toBitVec.getLsbD i = true
      · obtain ⟨i, hi, hb⟩ := h3
        exact ⟨i, by omega, hb⟩
      · exfalso
        rw [Bool.eq_false_iff.mpr h2, decide_eq_false h3] at h
        simp at h
  · rintro ⟨i, hi, hb⟩
    by_cases h2 : x.toBitVec.getLsbD j = true
    · rw [h2]; rfl
    · have h3 : ∃ i, i < j ∧ x.toBitVec.getLsbD i = true := by
        refine ⟨i, ?_, hb⟩
        rcases Nat.lt_or_ge i j with h | h
        · exact h
        · have e : i = j := by omega
          rw [e] at hb
          exact absurd hb h2
      rw [Bool.eq_false_iff.mpr h2, decide_eq_true h3, decide_eq_true hj]
      rfl
-- one step of a set, over a rest F' that asks F
theorem ig_sx {sz : Nat} {R R' F F' : Nat → Prop} (hF : ∀ q, F' q ↔ ∃ q', q ≤ q' ∧ q' ≤ sz ∧ F q') (hR : ∀ k, k ≤ sz → (R' k ↔ ∃ j, j ≤ k ∧ R j)) : (∃ k, k ≤ sz ∧ R k ∧ F' k) ↔ (∃ k, k ≤ sz ∧ R' k ∧ F k) := by
  constructor
  · rintro ⟨k, _, hr, hf⟩
    obtain ⟨q, h1, h2, h3⟩ := (hF k).mp hf
    exact ⟨q, h2, (hR q h2).mpr ⟨k, h1, hr⟩, h3⟩
  · rintro ⟨k, hk, hr, hf⟩
    obtain ⟨j, h1, h2⟩ := (hR k hk).mp hr
    exact ⟨j, by omega, h2, (hF j).mpr ⟨k, h1, hk, hf⟩⟩
theorem ig_sn {sz : Nat} {R R' F F' m : Nat → Prop} (hF : ∀ q, F' q ↔ q < sz ∧ m q ∧ F (q + 1)) (hR : ∀ k, k ≤ sz → (R' k ↔ ∃ i, i < sz ∧ k = i + 1 ∧ R i ∧ m i)) : (∃ k, k ≤ sz ∧ R k ∧ F' k) ↔ (∃ k, k ≤ sz ∧ R' k ∧ F k) := by
  constructor
  · rintro ⟨k, _, hr, hf⟩
    obtain ⟨h1, h2, h3⟩ := (hF k).mp hf
    exact ⟨k + 1, h1, (hR (k + 1) h1).mpr ⟨k, h1, rfl, hr, h2⟩, h3⟩
  · rintro ⟨k, hk, hr, hf⟩
    obtain ⟨i, h1, rfl, h3, h4⟩ := (hR k hk).mp hr
    exact ⟨i, by omega, h3, (hF i).mpr ⟨h1, h4, hf⟩⟩
theorem ig_sy {sz q : Nat} {F F' : Nat → Prop} (hF : ∀ q, F' q ↔ ∃ q', q ≤ q' ∧ q' ≤ sz ∧ F q') (hq : q ≤ sz) : F' q ↔ F q ∨ (q < sz ∧ F' (q + 1)) := by
  constructor
  · intro h
    obtain ⟨q', h1, h2, h3⟩ := (hF q).mp h
    by_cases e : q = q'
    · subst e
      exact Or.inl h3
    · exact Or.inr ⟨by omega, (hF (q + 1)).mpr ⟨q', by omega, h2, h3⟩⟩
  · rintro (h | ⟨h, h'⟩)
    · exact (hF q).mpr ⟨q, Nat.le_refl q, hq, h⟩
    · obtain ⟨q', h1, h2, h3⟩ := (hF (q + 1)).mp h'
      exact (hF q).mpr ⟨q', by omega, h2, h3⟩
theorem ig_e1 {k sz j : Nat} {A : Prop} {Q : Nat → Prop} (h : ¬ Q k) : (A ∨ ∃ i, k + 1 ≤ i ∧ i < sz ∧ j = i + 1 ∧ Q i) ↔ (A ∨ ∃ i, k ≤ i ∧ i < sz ∧ j = i + 1 ∧ Q i) := by
  constructor
  · rintro (a | ⟨i, h1, h2, h3, h4⟩)
    · exact Or.inl a
    · exact Or.inr ⟨i, by omega, h2, h3, h4⟩
  · rintro (a | ⟨i, h1, h2, h3, h4⟩)
    · exact Or.inl a
    · by_cases e : k = i
      · subst e
        exact absurd h4 h
      · exact Or.inr ⟨i, by omega, h2, h3, h4⟩
theorem ig_e2 {k sz j : Nat} {A A' : Prop} {Q : Nat → Prop} (hk : k < sz) (h : Q k) (hA : A' ↔ A ∨ j = k + 1) : (A' ∨ ∃ i, k + 1 ≤ i ∧ i < sz ∧ j = i + 1 ∧ Q i) ↔ (A ∨ ∃ i, k ≤ i ∧ i < sz ∧ j = i + 1 ∧ Q i) := by
  rw [hA]
  constructor
  · rintro ((a | a) | ⟨i, h1, h2, h3, h4⟩)
    · exact Or.inl a
    · exact Or.inr ⟨k, Nat.le_refl k, hk, a, h⟩
    · exact Or.inr ⟨i, by omega, h2, h3, h4⟩
  · rintro (a | ⟨i, h1, h2, h3, h4⟩)
    · exact Or.inl (Or.inl a)
    · by_cases e : k = i
      · subst e
        exact Or.inl (Or.inr h3)
      · exact Or.inr ⟨i, by omega, h2, h3, h4⟩
-- the picture: a part's last d characters (behind them stands e) fit the letters from q on
def ig_ft (g l : Nat → Int32) (sz e : Nat) : Nat → Nat → Prop
  | 0, q => q = sz
  | d + 1, q => (g (e - (d + 1)) = 7 ∧ ∃ q', q ≤ q' ∧ q' ≤ sz ∧ ig_ft g l sz e d q') ∨ (g (e - (d + 1)) ≠ 7 ∧ q < sz ∧ (g (e - (d + 1)) = 8 ∨ g (e - (d + 1)) = l q) ∧ ig_ft g l sz e d (q + 1))
theorem ig_ft7 {g l : Nat → Int32} {sz e d i : Nat} (hi : i + (d + 1) = e) (h : g i = 7) (q : Nat) : ig_ft g l sz e (d + 1) q ↔ ∃ q', q ≤ q' ∧ q' ≤ sz ∧ ig_ft g l sz e d q' := by
  have e1 : e - (d + 1) = i := by omega
  rw [ig_ft, e1]
  constructor
  · rintro (⟨_, h2⟩ | ⟨h2, _⟩)
    · exact h2
    · exact absurd h h2
  · intro h2
    exact Or.inl ⟨h, h2⟩
theorem ig_ftn {g l : Nat → Int32} {sz e d i : Nat} (hi : i + (d + 1) = e) (h : ¬ g i = 7) (q : Nat) : ig_ft g l sz e (d + 1) q ↔ q < sz ∧ (g i = 8 ∨ g i = l q) ∧ ig_ft g l sz e d (q + 1) := by
  have e1 : e - (d + 1) = i := by omega
  rw [ig_ft, e1]
  constructor
  · rintro (⟨h2, _⟩ | ⟨_, h2⟩)
    · exact absurd h2 h
    · exact h2
  · intro h2
    exact Or.inr ⟨h, h2⟩
def ig_pf (G L NL : Nat → Int32) (s t n : Nat) : Prop := ig_ft G (fun k => L (n * 8 + k)) (NL n).toNatClampNeg t (t - s) 0
def ig_al (G L NL : Nat → Int32) (n : Nat) : List (Nat × Nat) → Nat → Prop
  | [], q => q = n
  | p :: ls, q => (G p.1 = 10 ∧ ∃ q', q ≤ q' ∧ q' ≤ n ∧ ig_al G L NL n ls q') ∨ (G p.1 ≠ 10 ∧ q < n ∧ ig_pf G L NL p.1 p.2 q ∧ ig_al G L NL n ls (q + 1))
theorem ig_al7 {G L NL : Nat → Int32} {n s t : Nat} {ls : List (Nat × Nat)} (h : G s = 10) (q : Nat) : ig_al G L NL n ((s, t) :: ls) q ↔ ∃ q', q ≤ q' ∧ q' ≤ n ∧ ig_al G L NL n ls q' := by
  rw [ig_al]
  constructor
  · rintro (⟨_, h2⟩ | ⟨h2, _⟩)
    · exact h2
    · exact absurd h h2
  · intro h2
    exact Or.inl ⟨h, h2⟩
theorem ig_aln {G L NL : Nat → Int32} {n s t : Nat} {ls : List (Nat × Nat)} (h : ¬ G s = 10) (q : Nat) : ig_al G L NL n ((s, t) :: ls) q ↔ q < n ∧ ig_pf G L NL s t q ∧ ig_al G L NL n ls (q + 1) := by
  rw [ig_al]
  constructor
  · rintro (⟨h2, _⟩ | ⟨_, h2⟩)
    · exact absurd h2 h
    · exact h2
  · intro h2
    exact Or.inr ⟨h, h2⟩
def ig_cp (G : Nat → Int32) (e : Nat) : Nat → Nat → List (Nat × Nat)
  | 0, _ => []
  | d + 1, s => if d = 0 ∨ G (e - d) = 9 then (s, e - d) :: ig_cp G e d (e - d + 1) else ig_cp G e d s
theorem ig_cpc {G : Nat → Int32} {e d s i : Nat} (hi : i + d = e) (h : d = 0 ∨ G i = 9) : ig_cp G e (d + 1) s = (s, i) :: ig_cp G e d (i + 1) := by
  have e1 : e - d = i := by omega
  rw [ig_cp, e1, if_pos h]
theorem ig_cpn {G : Nat → Int32} {e d s i : Nat} (hi : i + d = e) (h0 : 0 < d) (h : ¬ G i = 9) : ig_cp G e (d + 1) s = ig_cp G e d s := by
  have e1 : e - d = i := by omega
  rw [ig_cp, e1, if_neg]
  rintro (h1 | h1)
  · omega
  · exact h h1
/-- with no slash there is one part -/
theorem ig_cp1 {G : Nat → Int32} {e : Nat} (s : Nat) : ∀ d, (∀ i, i < e → e < i + d → ¬ G i = 9) → d ≤ e + 1 → 0 < d → ig_cp G e d s = [(s, e)] := by
  intro d
  induction d with
  | zero => intro _ _ h; omega
  | succ d ih =>
    intro h hd _
    rcases Nat.eq_zero_or_pos d with h0 | h0
    · subst h0
      rw [ig_cpc (i := e) (by omega) (Or.inl rfl)]
      rfl
    · rw [ig_cpn (i := e - d) (by omega) h0 (h (e - d) (by omega) (by omega))]
      exact ih (fun i h1 h2 => h i h1 (by omega)) (by omega) h0
/-- a slash makes a second part -/
theorem ig_cp0 {G : Nat → Int32} {e : Nat} : ∀ d s, 0 < d → 1 ≤ (ig_cp G e d s).length := by
  intro d
  induction d with
  | zero => intro _ h; omega
  | succ d ih =>
    intro s _
    rw [ig_cp]
    split
    · simp
    · rcases Nat.eq_zero_or_pos d with h0 | h0
      · rename_i h
        exact absurd (Or.inl h0) h
      · exact ih s h0
theorem ig_cp2 {G : Nat → Int32} {e j : Nat} (hj : j < e) (h9 : G j = 9) : ∀ d s, e < j + d → 2 ≤ (ig_cp G e d s).length := by
  intro d
  induction d with
  | zero => intro _ h; omega
  | succ d ih =>
    intro s h
    rw [ig_cp]
    by_cases hc : d = 0 ∨ G (e - d) = 9
    · rw [if_pos hc, List.length_cons]
      have := ig_cp0 (G := G) (e := e) d (e - d + 1) (by omega)
      omega
    · rw [if_neg hc]
      refine ih s ?_
      rcases Nat.lt_or_ge e (j + d) with h1 | h1
      · exact h1
      · exfalso
        have e1 : e - d = j := by omega
        rw [e1] at hc
        exact hc (Or.inr h9)
theorem ig_cpL {G : Nat → Int32} {e : Nat} : ∀ d s, (ig_cp G e d s).length ≤ d := by
  intro d
  induction d with
  | zero => intro _; exact Nat.le_refl 0
  | succ d ih =>
    intro s
    rw [ig_cp]
    split
    · rw [List.length_cons]
      have := ig_cp0 (G := G) (e := e) d (e - d + 1)
      have := ih (e - d + 1)
      omega
    · have := ih s
      omega
end
section
-- the component's walks against the picture
section
variable {bl rc nc : Int32} {B G RL M L NL : Nat → Int32}
theorem ig_x59 {post : Int32 → Prop} {J20 : Int32 → Int32 → Prop} {x2 x6 x7 c : Int32} {nm sz : Nat} (hn : nm < 6) (hs : sz ≤ 8) : ∀ d k x9, k + d = sz → (∀ y, (∀ j, j < 32 → (bt y j = true ↔ bt x9 j = true ∨ ∃ i, k ≤ i ∧ i < sz ∧ j = i + 1 ∧ (bt x6 i = true ∧ (c = 8 ∨ c = L (nm * 8 + i))))) → J20 y (x7 + 1)) → ∀ n, d < n → wX_partFits_59 post J20 x2 (nI (nm * 8)) (nI sz) x6 x7 c bl rc nc B G RL M L NL n x9 (nI k) := by
  intro d
  induction d with
  | zero =>
    intro k x9 hk hJ n hd
    obtain ⟨n, rfl⟩ : ∃ m, n = m + 1 := ⟨n - 1, by omega⟩
    refine br_t (nI_le (by omega) (by omega)) (nm_e (hJ x9 fun j hj => ⟨Or.inl, ?_⟩))
    rintro (h | ⟨i, h1, h2, _⟩)
    · exact h
    · omega
  | succ d ih =>
    intro k x9 hk hJ n hd
    obtain ⟨n, rfl⟩ : ∃ m, n = m + 1 := ⟨n - 1, by omega⟩
    refine br_f (nI_ge (by omega) (by omega)) ?_
    have hk32 : k < 32 := by omega
    have hsk : ¬ (bt x6 k = true ∧ (c = 8 ∨ c = L (nm * 8 + k))) → wX_partFits_59 post J20 x2 (nI (nm * 8)) (nI sz) x6 x7 c bl rc nc B G RL M L NL n x9 (nI (k + 1)) := fun hq =>
      ih (k + 1) x9 (by omega) (fun y hy => hJ y fun j hj => (hy j hj).trans (ig_e1 (Q := fun i => bt x6 i = true ∧ (c = 8 ∨ c = L (nm * 8 + i))) hq)) n (by omega)
    have htk : (bt x6 k = true ∧ (c = 8 ∨ c = L (nm * 8 + k))) → wX_partFits_98 post J20 (wX_partFits_59 post J20 x2 (nI (nm * 8)) (nI sz) x6 x7 c bl rc nc B G RL M L NL n) x2 (nI (nm * 8)) (nI sz) x6 x7 c x9 (nI k) bl rc nc B G RL M L NL := fun hq =>
      nm_r (e' := x9 ||| ((1 : Int32) <<< (nI (k + 1) &&& 31))) (by rw [nI_1 k]) (nm_r (nI_1 k) (ih (k + 1) _ (by omega) (fun y hy => hJ y fun j hj => (hy j hj).trans (ig_e2 (Q := fun i => bt x6 i = true ∧ (c = 8 ∨ c = L (nm * 8 + i))) (by omega) hq (ig_set x9 (by omega) hj))) n (by omega)))
    by_cases hb : bt x6 k = true
    · refine br_f (ig_tst1 x6 hk32 hb) ?_
      by_cases h8 : c = 8
      · exact br_t h8 (htk ⟨hb, Or.inl h8⟩)
      · have ha : nI (nm * 8) + nI k = nI (nm * 8 + k) := nI_add _ _
        have hi : (nI (nm * 8) + nI k).toNatClampNeg = nm * 8 + k := by rw [ha]; exact nI_clamp (by omega)
        refine br_f h8 ⟨by rw [ha]; exact vp_in_nI (by omega) (by omega), ?_⟩
        rw [hi]
        by_cases hl : c = L (nm * 8 + k)
        · exact br_t hl (htk ⟨hb, Or.inr hl⟩)
        · refine br_f hl (nm_r (nI_1 k) (hsk ?_))
          rintro ⟨_, h | h⟩
          · exact h8 h
          · exact hl h
    · exact br_t (ig_tst0 x6 hk32 hb) (nm_r (nI_1 k) (hsk fun h => hb h.1))
theorem ig_x20 {post : Int32 → Prop} {P : Prop} {e nm sz : Nat} (he : e ≤ 120) (hn : nm < 6) (hs : sz ≤ 8) (h1 : P → post 1) (h0 : ¬ P → post 0) : ∀ d i x6, i + d = e → (P ↔ ∃ k, k ≤ sz ∧ bt x6 k = true ∧ ig_ft G (fun k => L (nm * 8 + k)) sz e d k) → ∀ n, d < n → wX_partFits_20 post (nI e) (nI (nm * 8)) (nI sz) bl rc nc B G RL M L NL n x6 (nI i) := by
  intro d
  induction d with
  | zero =>
    intro i x6 hi hP n hd
    obtain ⟨n, rfl⟩ : ∃ m, n = m + 1 := ⟨n - 1, by omega⟩
    refine br_t (nI_le (by omega) (by omega)) ?_
    by_cases hb : bt x6 sz = true
    · exact br_f (ig_tst1 x6 (by omega) hb) (h1 (hP.mpr ⟨sz, Nat.le_refl sz, hb, rfl⟩))
    · refine br_t (ig_tst0 x6 (by omega) hb) (h0 fun p => ?_)
      obtain ⟨k, _, h2, h3⟩ := hP.mp p
      have h3 : k = sz := h3
      rw [h3] at h2
      exact hb h2
  | succ d ih =>
    intro i x6 hi hP n hd
    obtain ⟨n, rfl⟩ : ∃ m, n = m + 1 := ⟨n - 1, by omega⟩
    refine br_f (nI_ge (by omega) (by omega)) ⟨vp_in_nI (by omega) (by omega), nm_r (congrArg G (nI_clamp (by omega))) ?_⟩
    by_cases h7 : G i = 7
    · refine br_t h7 (nm_e (nm_r (nI_1 i) (ih (i + 1) _ (by omega) (hP.trans ?_) n (by omega))))
      exact ig_sx (ig_ft7 hi h7) fun k hk => ig_fill x6 (by omega)
    · refine br_f h7 ⟨sz + 1, ig_x59 hn hs sz 0 0 (by omega) (fun y hy => ?_) (sz + 1) (by omega)⟩
      rw [nI_1 i]
      refine ih (i + 1) y (by omega) (hP.trans (ig_sn (ig_ftn hi h7) fun k hk => (hy k (by omega)).trans ?_)) n (by omega)
      constructor
      · rintro (h | ⟨j, _, h2, h3, h4⟩)
        · rw [b_0] at h
          exact Bool.noConfusion h
        · exact ⟨j, h2, h3, h4⟩
      · rintro ⟨j, h2, h3, h4⟩
        exact Or.inr ⟨j, Nat.zero_le j, h2, h3, h4⟩
theorem ig_b1a {F : Nat → Prop} {sz : Nat} : F 0 ↔ ∃ k, k ≤ sz ∧ bt 1 k = true ∧ F k := by
  constructor
  · intro h
    exact ⟨0, Nat.zero_le _, by decide, h⟩
  · rintro ⟨k, _, h, hf⟩
    rw [ig_bt1, decide_eq_true_iff] at h
    rw [h] at hf
    exact hf
theorem ig_xpf {post : Int32 → Prop} {s e nm : Nat} (hse : s ≤ e) (he : e ≤ 120) (hn : nm < 6) (hN : ∀ j, ∃ m, m ≤ 8 ∧ NL j = nI m) (h1 : ig_pf G L NL s e nm → post 1) (h0 : ¬ ig_pf G L NL s e nm → post 0) : wpX_partFits post (bl, rc, nc, B, G, RL, M, L, NL) (nI s) (nI e) (nI nm) := by
  obtain ⟨sz, hs, hz⟩ := hN nm
  have hz2 : (NL nm).toNatClampNeg = sz := by rw [hz]; exact nI_clamp (by omega)
  have hz3 : NL (nI nm).toNatClampNeg = nI sz := by rw [nI_clamp (by omega)]; exact hz
  refine nm_r (pk_mul nm 8) ⟨vp_in_nI hn (by omega), nm_r hz3 ⟨e - s + 1, ig_x20 he hn hs h1 h0 (e - s) s 1 (by omega) ?_ _ (by omega)⟩⟩
  unfold ig_pf
  rw [hz2]
  exact ig_b1a
theorem ig_x78 {post : Int32 → Prop} {J21 : Int32 → Int32 → Int32 → Prop} {x4 x5 : Int32} {s t nn : Nat} (hst : s ≤ t) (ht : t ≤ 120) (hnn : nn ≤ 6) (hN : ∀ j, ∃ m, m ≤ 8 ∧ NL j = nI m) : ∀ d k x7, k + d = nn → (∀ y, (∀ j, j < 32 → (bt y j = true ↔ bt x7 j = true ∨ ∃ i, k ≤ i ∧ i < nn ∧ j = i + 1 ∧ (bt x5 i = true ∧ ig_pf G L NL s t i))) → J21 (nI (t + 1)) y (nI (t + 1))) → ∀ n, d < n → wX_partsFit_78 post J21 (nI nn) (nI s) x4 x5 (nI t) bl rc nc B G RL M L NL n x7 (nI k) := by
  intro d
  induction d with
  | zero =>
    intro k x7 hk hJ n hd
    obtain ⟨n, rfl⟩ : ∃ m, n = m + 1 := ⟨n - 1, by omega⟩
    refine br_t (nI_le (by omega) (by omega)) (nm_r (nI_1 t) (nm_r (nI_1 t) (hJ x7 fun j hj => ⟨Or.inl, ?_⟩)))
    rintro (h | ⟨i, h1, h2, _⟩)
    · exact h
    · omega
  | succ d ih =>
    intro k x7 hk hJ n hd
    obtain ⟨n, rfl⟩ : ∃ m, n = m + 1 := ⟨n - 1, by omega⟩
    refine br_f (nI_ge (by omega) (by omega)) ?_
    have hk32 : k < 32 := by omega
    have hsk : ¬ (bt x5 k = true ∧ ig_pf G L NL s t k) → wX_partsFit_78 post J21 (nI nn) (nI s) x4 x5 (nI t) bl rc nc B G RL M L NL n x7 (nI (k + 1)) := fun hq =>
      ih (k + 1) x7 (by omega) (fun y hy => hJ y fun j hj => (hy j hj).trans (ig_e1 (Q := fun i => bt x5 i = true ∧ ig_pf G L NL s t i) hq)) n (by omega)
    by_cases hb : bt x5 k = true
    · refine br_f (ig_tst1 x5 hk32 hb) (ig_xpf hst ht (by omega) hN (fun hp => ?_) (fun hp => ?_))
      · refine br_f (by decide) (nm_r (e' := x7 ||| ((1 : Int32) <<< (nI (k + 1) &&& 31))) (by rw [nI_1 k]) (nm_r (nI_1 k) (ih (k + 1) _ (by omega) (fun y hy => hJ y fun j hj => (hy j hj).trans ?_) n (by omega))))
        exact ig_e2 (Q := fun i => bt x5 i = true ∧ ig_pf G L NL s t i) (by omega) ⟨hb, hp⟩ (ig_set x7 (by omega) hj)
      · exact br_t rfl (nm_r (nI_1 k) (hsk fun h => hp h.2))
    · exact br_t (ig_tst0 x5 hk32 hb) (nm_r (nI_1 k) (hsk fun h => hb h.1))
theorem ig_x21 {post : Int32 → Prop} {P : Prop} {e nn : Nat} (he : e ≤ 120) (hnn : nn ≤ 6) (hN : ∀ j, ∃ m, m ≤ 8 ∧ NL j = nI m) (h9 : ¬ G (e - 1) = 9) (h1 : P → post 1) (h0 : ¬ P → post 0) : ∀ d i s x5, i + d = e + 1 → s ≤ i → (d = 0 ∨ s < e) → (P ↔ ∃ k, k ≤ nn ∧ bt x5 k = true ∧ ig_al G L NL nn (ig_cp G e d s) k) → ∀ n, d < n → wX_partsFit_21 post (nI nn) (nI e) bl rc nc B G RL M L NL n (nI s) x5 (nI i) := by
  intro d
  induction d with
  | zero =>
    intro i s x5 hi hsi hs hP n hd
    obtain ⟨n, rfl⟩ : ∃ m, n = m + 1 := ⟨n - 1, by omega⟩
    refine br_t (nI_lt (by omega) (by omega)) ?_
    by_cases hb : bt x5 nn = true
    · exact br_f (ig_tst1 x5 (by omega) hb) (h1 (hP.mpr ⟨nn, Nat.le_refl nn, hb, rfl⟩))
    · refine br_t (ig_tst0 x5 (by omega) hb) (h0 fun p => ?_)
      obtain ⟨k, _, h2, h3⟩ := hP.mp p
      have h3 : k = nn := h3
      rw [h3] at h2
      exact hb h2
  | succ d ih =>
    intro i s x5 hi hsi hs hP n hd
    obtain ⟨n, rfl⟩ : ∃ m, n = m + 1 := ⟨n - 1, by omega⟩
    refine br_f (nI_nlt (by omega) (by omega)) ?_
    have hse : s < e := by omega
    have hcut : (d = 0 ∨ G i = 9) → wX_partsFit_50 post (wX_partsFit_21 post (nI nn) (nI e) bl rc nc B G RL M L NL n) (nI nn) (nI s) (nI e) x5 (nI i) bl rc nc B G RL M L NL := by
      intro hc
      have hs' : d = 0 ∨ i + 1 < e := by
        rcases Nat.eq_zero_or_pos d with h | h
        · exact Or.inl h
        · rcases hc with h' | h'
          · omega
          · refine Or.inr ?_
            rcases Nat.lt_or_ge (i + 1) e with h2 | h2
            · exact h2
            · have e1 : i = e - 1 := by omega
              rw [e1] at h'
              exact absurd h' h9
      rw [ig_cpc (i := i) (by omega) hc] at hP
      have hcl : (nI s).toNatClampNeg = s := nI_clamp (by omega)
      refine ⟨vp_in_nI (by omega) (by omega), ?_⟩
      rw [hcl]
      by_cases h10 : G s = 10
      · refine br_t h10 (nm_e (nm_r (nI_1 i) (nm_r (nI_1 i) (ih (i + 1) (i + 1) _ (by omega) (Nat.le_refl _) hs' (hP.trans ?_) n (by omega)))))
        exact ig_sx (ig_al7 h10) fun k hk => ig_fill x5 (by omega)
      · refine br_f h10 ⟨nn + 1, ig_x78 hsi (by omega) hnn hN nn 0 0 (by omega) (fun y hy => ?_) (nn + 1) (by omega)⟩
        refine ih (i + 1) (i + 1) y (by omega) (Nat.le_refl _) hs' (hP.trans (ig_sn (ig_aln h10) fun k hk => (hy k (by omega)).trans ?_)) n (by omega)
        constructor
        · rintro (h | ⟨j, _, h2, h3, h4⟩)
          · rw [b_0] at h
            exact Bool.noConfusion h
          · exact ⟨j, h2, h3, h4⟩
        · rintro ⟨j, h2, h3, h4⟩
          exact Or.inr ⟨j, Nat.zero_le j, h2, h3, h4⟩
    rcases Nat.eq_zero_or_pos d with hd0 | hd0
    · exact br_t (nI_le (by omega) (by omega)) (hcut (Or.inl hd0))
    · refine br_f (nI_ge (by omega) (by omega)) ⟨vp_in_nI (by omega) (by omega), ?_⟩
      have hcl : (nI i).toNatClampNeg = i := nI_clamp (by omega)
      rw [hcl]
      by_cases hg : G i = 9
      · exact br_t hg (hcut (Or.inr hg))
      · rw [ig_cpn (i := i) (by omega) hd0 hg] at hP
        exact br_f hg (nm_r (nI_1 i) (ih (i + 1) s x5 (by omega) (by omega) (Or.inr hse) hP n (by omega)))
theorem ig_xps {post : Int32 → Prop} {r m nn : Nat} (hr : r < 12) (hm : 1 ≤ m) (hm2 : m ≤ 10) (hR : RL r = nI m) (hnn : nn ≤ 6) (hN : ∀ j, ∃ m, m ≤ 8 ∧ NL j = nI m) (h9 : ¬ G (r * 10 + m - 1) = 9) (h1 : ig_al G L NL nn (ig_cp G (r * 10 + m) (m + 1) (r * 10)) 0 → post 1) (h0 : ¬ ig_al G L NL nn (ig_cp G (r * 10 + m) (m + 1) (r * 10)) 0 → post 0) : wpX_partsFit post (bl, rc, nc, B, G, RL, M, L, NL) (nI r) (nI nn) := by
  have h3 : nI (r * 10) + RL (nI r).toNatClampNeg = nI (r * 10 + m) := by rw [nI_clamp (by omega), hR]; exact nI_add _ _
  refine nm_r (pk_mul r 10) ⟨vp_in_nI hr (by omega), nm_r h3 ⟨m + 2, ig_x21 (by omega) hnn hN h9 h1 h0 (m + 1) (r * 10) (r * 10) 1 (by omega) (Nat.le_refl _) (Or.inr (by omega)) ?_ _ (by omega)⟩⟩
  exact ig_b1a
theorem ig_x17 {post : Int32 → Prop} {P : Prop} {e : Nat} (he : e ≤ 120) (h1 : P → post 1) (h0 : ¬ P → post 0) : ∀ d i, i + d = e → (P ↔ ∃ j, i ≤ j ∧ j < e ∧ G j = 9) → ∀ n, d < n → wX_hasSlash_17 post (nI e) bl rc nc B G RL M L NL n (nI i) := by
  intro d
  induction d with
  | zero =>
    intro i hi hP n hd
    obtain ⟨n, rfl⟩ : ∃ m, n = m + 1 := ⟨n - 1, by omega⟩
    refine br_t (nI_le (by omega) (by omega)) (h0 fun p => ?_)
    obtain ⟨j, h2, h3, _⟩ := hP.mp p
    omega
  | succ d ih =>
    intro i hi hP n hd
    obtain ⟨n, rfl⟩ : ∃ m, n = m + 1 := ⟨n - 1, by omega⟩
    refine br_f (nI_ge (by omega) (by omega)) ⟨vp_in_nI (by omega) (by omega), ?_⟩
    have hcl : (nI i).toNatClampNeg = i := nI_clamp (by omega)
    rw [hcl]
    by_cases hg : G i = 9
    · exact br_t hg (h1 (hP.mpr ⟨i, Nat.le_refl i, by omega, hg⟩))
    · refine br_f hg (nm_r (nI_1 i) (ih (i + 1) (by omega) (hP.trans ⟨?_, ?_⟩) n (by omega)))
      · rintro ⟨j, h2, h3, h4⟩
        by_cases e1 : i = j
        · subst e1
          exact absurd h4 hg
        · exact ⟨j, by omega, h3, h4⟩
      · rintro ⟨j, h2, h3, h4⟩
        exact ⟨j, by omega, h3, h4⟩
theorem ig_xhs {post : Int32 → Prop} {r m : Nat} (hr : r < 12) (hm2 : m ≤ 10) (hR : RL r = nI m) (h1 : (∃ j, r * 10 ≤ j ∧ j < r * 10 + m ∧ G j = 9) → post 1) (h0 : ¬ (∃ j, r * 10 ≤ j ∧ j < r * 10 + m ∧ G j = 9) → post 0) : wpX_hasSlash post (bl, rc, nc, B, G, RL, M, L, NL) (nI r) := by
  have h3 : nI (r * 10) + RL (nI r).toNatClampNeg = nI (r * 10 + m) := by rw [nI_clamp (by omega), hR]; exact nI_add _ _
  exact nm_r (pk_mul r 10) ⟨vp_in_nI hr (by omega), nm_r h3 ⟨m + 1, ig_x17 (by omega) h1 h0 m (r * 10) (by omega) Iff.rfl _ (by omega)⟩⟩
end
end
section
-- the picture of a rule, of the last that matches, of the count, of the least number of names
def ig_mq (G M L NL : Nat → Int32) (r m n : Nat) (fo : Int32) : Prop :=
  ((M r &&& 4) = 0 ∨ ¬ fo = 0) ∧ ((((M r &&& 2) = 0 ∧ ¬ ∃ j, r * 10 ≤ j ∧ j < r * 10 + m ∧ G j = 9) ∧ (G (r * 10) = 10 ∨ ig_pf G L NL (r * 10) (r * 10 + m) (n - 1))) ∨ (¬ ((M r &&& 2) = 0 ∧ ¬ ∃ j, r * 10 ≤ j ∧ j < r * 10 + m ∧ G j = 9) ∧ ig_al G L NL n (ig_cp G (r * 10 + m) (m + 1) (r * 10)) 0))
def ig_mr (G RL M L NL : Nat → Int32) (r n : Nat) (fo : Int32) : Prop := ig_mq G M L NL r (RL r).toNatClampNeg n fo
def ig_ru (G RL : Nat → Int32) (rc : Nat) : Prop := ∀ r, r < rc → ∃ m, 1 ≤ m ∧ m ≤ 10 ∧ RL r = nI m ∧ ¬ G (r * 10) = 9 ∧ ¬ G (r * 10 + m - 1) = 9
theorem ig_mqo {G M L NL : Nat → Int32} {r m n : Nat} {fo : Int32} (ha : (M r &&& 4) = 0 ∨ ¬ fo = 0) (h2 : (M r &&& 2) = 0) (h : ¬ ∃ j, r * 10 ≤ j ∧ j < r * 10 + m ∧ G j = 9) : ig_mq G M L NL r m n fo ↔ (G (r * 10) = 10 ∨ ig_pf G L NL (r * 10) (r * 10 + m) (n - 1)) := by
  constructor
  · rintro ⟨_, ⟨_, h3⟩ | ⟨h3, _⟩⟩
    · exact h3
    · exact absurd ⟨h2, h⟩ h3
  · intro h3
    exact ⟨ha, Or.inl ⟨⟨h2, h⟩, h3⟩⟩
theorem ig_mqm {G M L NL : Nat → Int32} {r m n : Nat} {fo : Int32} (ha : (M r &&& 4) = 0 ∨ ¬ fo = 0) (h : ¬ ((M r &&& 2) = 0 ∧ ¬ ∃ j, r * 10 ≤ j ∧ j < r * 10 + m ∧ G j = 9)) : ig_mq G M L NL r m n fo ↔ ig_al G L NL n (ig_cp G (r * 10 + m) (m + 1) (r * 10)) 0 := by
  constructor
  · rintro ⟨_, ⟨h3, _⟩ | ⟨_, h3⟩⟩
    · exact absurd h3 h
    · exact h3
  · intro h3
    exact ⟨ha, Or.inr ⟨h, h3⟩⟩
noncomputable def ig_ls (P : Nat → Prop) : Nat → Int32
  | 0 => -5
  | n + 1 => @ite Int32 (P n) (Classical.propDecidable (P n)) (nI n) (ig_ls P n)
theorem ig_lst {P : Nat → Prop} {n : Nat} (h : P n) : ig_ls P (n + 1) = nI n := by
  rw [ig_ls, if_pos h]
theorem ig_lsf {P : Nat → Prop} {n : Nat} (h : ¬ P n) : ig_ls P (n + 1) = ig_ls P n := by
  rw [ig_ls, if_neg h]
theorem ig_lsr (P : Nat → Prop) : ∀ n, ig_ls P n = -5 ∨ ∃ j, j < n ∧ ig_ls P n = nI j := by
  intro n
  induction n with
  | zero => exact Or.inl rfl
  | succ n ih =>
    by_cases h : P n
    · exact Or.inr ⟨n, by omega, ig_lst h⟩
    · rw [ig_lsf h]
      rcases ih with h2 | ⟨j, hj, h2⟩
      · exact Or.inl h2
      · exact Or.inr ⟨j, by omega, h2⟩
noncomputable def ig_cn (P : Nat → Prop) : Nat → Int32
  | 0 => 0
  | n + 1 => @ite Int32 (P n) (Classical.propDecidable (P n)) (ig_cn P n + 1) (ig_cn P n)
theorem ig_cnt {P : Nat → Prop} {n : Nat} (h : P n) : ig_cn P (n + 1) = ig_cn P n + 1 := by
  rw [ig_cn, if_pos h]
theorem ig_cnf {P : Nat → Prop} {n : Nat} (h : ¬ P n) : ig_cn P (n + 1) = ig_cn P n := by
  rw [ig_cn, if_neg h]
noncomputable def ig_ca (Q : Nat → Prop) : Nat → Nat → Int32
  | 0, _ => -5
  | d + 1, n => @ite Int32 (Q n) (Classical.propDecidable (Q n)) (nI n) (ig_ca Q d (n + 1))
theorem ig_cat {Q : Nat → Prop} {d n : Nat} (h : Q n) : ig_ca Q (d + 1) n = nI n := by
  rw [ig_ca, if_pos h]
theorem ig_caf {Q : Nat → Prop} {d n : Nat} (h : ¬ Q n) : ig_ca Q (d + 1) n = ig_ca Q d (n + 1) := by
  rw [ig_ca, if_neg h]
def ig_fo (fo : Int32) (nc n : Nat) : Int32 := if fo = 0 then (if nc ≤ n then 0 else 1) else 1
noncomputable def ig_la (G RL M L NL : Nat → Int32) (rc nc : Nat) (fo : Int32) (n : Nat) : Int32 := ig_ls (fun r => ig_mr G RL M L NL r n (ig_fo fo nc n)) rc
def ig_Q (G RL M L NL : Nat → Int32) (rc nc : Nat) (fo : Int32) (n : Nat) : Prop := ¬ ig_la G RL M L NL rc nc fo n = -5 ∧ (M (ig_la G RL M L NL rc nc fo n).toNatClampNeg &&& 1) = 0
-- the component
section
variable {bl : Int32} {rc nc : Nat} {B G RL M L NL : Nat → Int32}
theorem ig_nar1 : narrow .boolean (.int 1) = .int 1 := rfl
theorem ig_nar0 : narrow .boolean (.int 0) = .int 0 := rfl
theorem ig_xr36 {post : Int32 → Prop} {Q : Prop} {r m n : Nat} (hr : r < 12) (hm : 1 ≤ m) (hm2 : m ≤ 10) (hR : RL r = nI m) (h9 : ¬ G (r * 10 + m - 1) = 9) (hn : n ≤ 6) (hN : ∀ j, ∃ m, m ≤ 8 ∧ NL j = nI m) (h1 : Q → post 1) (h0 : ¬ Q → post 0) (hq : Q ↔ ig_al G L NL n (ig_cp G (r * 10 + m) (m + 1) (r * 10)) 0) : wX_ruleMatches_36 post (nI r) (nI n) bl (nI rc) (nI nc) B G RL M L NL :=
  ig_xps hr hm hm2 hR hn hN h9 (fun h => ⟨ig_nar1, h1 (hq.mpr h)⟩) (fun h => ⟨ig_nar0, h0 fun q => h (hq.mp q)⟩)
theorem ig_xr17 {post : Int32 → Prop} {r m n : Nat} {fo : Int32} (hr : r < 12) (hm : 1 ≤ m) (hm2 : m ≤ 10) (hR : RL r = nI m) (h9 : ¬ G (r * 10 + m - 1) = 9) (hn1 : 1 ≤ n) (hn : n ≤ 6) (hN : ∀ j, ∃ m, m ≤ 8 ∧ NL j = nI m) (ha : (M r &&& 4) = 0 ∨ ¬ fo = 0) (h1 : ig_mq G M L NL r m n fo → post 1) (h0 : ¬ ig_mq G M L NL r m n fo → post 0) : wX_ruleMatches_17 post (nI r) (nI n) bl (nI rc) (nI nc) B G RL M L NL := by
  refine ⟨vp_in_nI hr (by omega), ?_⟩
  have hcl : (nI r).toNatClampNeg = r := nI_clamp (by omega)
  rw [hcl]
  by_cases h2 : (M r &&& 2) = 0
  · refine br_t h2 (ig_xhs hr hm2 hR (fun hs => ?_) (fun hs => ?_))
    · exact br_f (by decide) (ig_xr36 hr hm hm2 hR h9 hn hN h1 h0 (ig_mqm ha fun h => h.2 hs))
    · refine br_t rfl (nm_r (pk_mul r 10) ⟨vp_in_nI (by omega) (by omega), ?_⟩)
      have hcl2 : (nI (r * 10)).toNatClampNeg = r * 10 := nI_clamp (by omega)
      rw [hcl2]
      have hq := ig_mqo (L := L) (NL := NL) (n := n) ha h2 hs
      by_cases h10 : G (r * 10) = 10
      · exact br_t h10 (h1 (hq.mpr (Or.inl h10)))
      · refine br_f h10 ⟨vp_in_nI hr (by omega), ?_⟩
        have h3 : nI (r * 10) + RL r = nI (r * 10 + m) := by rw [hR]; exact nI_add _ _
        have h4 : nI n - 1 = nI (n - 1) := pk_sub (b := 1) hn1
        rw [h3, h4]
        refine ig_xpf (by omega) (by omega) (by omega) hN (fun h => ⟨ig_nar1, h1 (hq.mpr (Or.inr h))⟩) (fun h => ⟨ig_nar0, h0 fun q => ?_⟩)
        rcases hq.mp q with h5 | h5
        · exact h10 h5
        · exact h h5
  · exact br_f h2 (ig_xr36 hr hm hm2 hR h9 hn hN h1 h0 (ig_mqm ha fun h => h2 h.1))
theorem ig_xrm {post : Int32 → Prop} {r n : Nat} {fo : Int32} (hrc : rc ≤ 12) (hru : ig_ru G RL rc) (hr : r < rc) (hn1 : 1 ≤ n) (hn : n ≤ 6) (hN : ∀ j, ∃ m, m ≤ 8 ∧ NL j = nI m) (h1 : ig_mr G RL M L NL r n fo → post 1) (h0 : ¬ ig_mr G RL M L NL r n fo → post 0) : wpX_ruleMatches post (bl, nI rc, nI nc, B, G, RL, M, L, NL) (nI r) (nI n) fo := by
  obtain ⟨m, hm, hm2, hR, _, h9⟩ := hru r hr
  have e : (RL r).toNatClampNeg = m := by rw [hR]; exact nI_clamp (by omega)
  unfold ig_mr at h1 h0
  rw [e] at h1 h0
  have hr12 : r < 12 := by omega
  refine ⟨vp_in_nI hr12 (by omega), ?_⟩
  have hcl : (nI r).toNatClampNeg = r := nI_clamp (by omega)
  rw [hcl]
  by_cases h4 : (M r &&& 4) = 0
  · exact br_t h4 (ig_xr17 hr12 hm hm2 hR h9 hn1 hn hN (Or.inl h4) h1 h0)
  · by_cases hf : fo = 0
    · refine br_f h4 (br_t hf (h0 ?_))
      rintro ⟨h | h, _⟩
      · exact h4 h
      · exact h hf
    · exact br_f h4 (br_f hf (ig_xr17 hr12 hm hm2 hR h9 hn1 hn hN (Or.inr hf) h1 h0))
theorem ig_x7 {post : Int32 → Prop} {nn : Nat} {fo : Int32} (hrc : rc ≤ 12) (hru : ig_ru G RL rc) (hn1 : 1 ≤ nn) (hn : nn ≤ 6) (hN : ∀ j, ∃ m, m ≤ 8 ∧ NL j = nI m) : ∀ r, r ≤ rc → post (ig_ls (fun r => ig_mr G RL M L NL r nn fo) r) → ∀ n, r < n → wX_lastMatching_7 post (nI nn) fo bl (nI rc) (nI nc) B G RL M L NL n (nI r + (-1)) := by
  intro r
  induction r with
  | zero =>
    intro _ hp n hd
    obtain ⟨n, rfl⟩ : ∃ m, n = m + 1 := ⟨n - 1, by omega⟩
    exact br_t (by decide) hp
  | succ r ih =>
    intro hr hp n hd
    obtain ⟨n, rfl⟩ : ∃ m, n = m + 1 := ⟨n - 1, by omega⟩
    rw [pk_m1]
    refine br_f (nI_pos (by omega)) (ig_xrm hrc hru (by omega) hn1 hn hN (fun h => ?_) (fun h => ?_))
    · rw [ig_lst h] at hp
      exact br_f (by decide) hp
    · rw [ig_lsf h] at hp
      exact br_t rfl (nm_e (ih (by omega) hp n (by omega)))
theorem ig_xlm {post : Int32 → Prop} {nn : Nat} {fo : Int32} (hrc : rc ≤ 12) (hru : ig_ru G RL rc) (hn1 : 1 ≤ nn) (hn : nn ≤ 6) (hN : ∀ j, ∃ m, m ≤ 8 ∧ NL j = nI m) (hp : post (ig_ls (fun r => ig_mr G RL M L NL r nn fo) rc)) : wpX_lastMatching post (bl, nI rc, nI nc, B, G, RL, M, L, NL) (nI nn) fo :=
  nm_r (Int32.sub_eq_add_neg _ _) ⟨rc + 1, ig_x7 hrc hru hn1 hn hN rc (Nat.le_refl rc) hp _ (by omega)⟩
theorem ig_x39 {post : Int32 → Prop} {J12 : Int32 → Prop} {x1 fo : Int32} {n : Nat} (hrc : rc ≤ 12) (hru : ig_ru G RL rc) (hn1 : 1 ≤ n) (hn : n ≤ 6) (hN : ∀ j, ∃ m, m ≤ 8 ∧ NL j = nI m) (h1 : ig_Q G RL M L NL rc nc fo n → post (nI n)) (h0 : ¬ ig_Q G RL M L NL rc nc fo n → J12 (nI (n + 1))) : wX_leastIgnored_39 post J12 x1 (nI n) (ig_fo fo nc n) (nI n) bl (nI rc) (nI nc) B G RL M L NL := by
  refine ig_xlm hrc hru hn1 hn hN ?_
  show ((ig_la G RL M L NL rc nc fo n = -5 → _) ∧ (¬ ig_la G RL M L NL rc nc fo n = -5 → _))
  by_cases h5 : ig_la G RL M L NL rc nc fo n = -5
  · exact br_t h5 (nm_r (nI_1 n) (h0 fun h => h.1 h5))
  · obtain ⟨j, hj, ej⟩ : ∃ j, j < rc ∧ ig_la G RL M L NL rc nc fo n = nI j := (ig_lsr _ rc).resolve_left h5
    refine br_f h5 ⟨?_, ?_⟩
    · show vp_in (ig_la G RL M L NL rc nc fo n) 12
      rw [ej]
      exact vp_in_nI (by omega) (by omega)
    · by_cases hm : (M (ig_la G RL M L NL rc nc fo n).toNatClampNeg &&& 1) = 0
      · exact br_t hm (h1 ⟨h5, hm⟩)
      · exact br_f hm (nm_r (nI_1 n) (h0 fun h => hm h.2))
theorem ig_x12 {post : Int32 → Prop} {fo : Int32} (hrc : rc ≤ 12) (hru : ig_ru G RL rc) (hc : nc ≤ 6) (hN : ∀ j, ∃ m, m ≤ 8 ∧ NL j = nI m) : ∀ d n, n + d = nc + 1 → 1 ≤ n → post (ig_ca (ig_Q G RL M L NL rc nc fo) d n) → ∀ f, d < f → wX_leastIgnored_12 post fo bl (nI rc) (nI nc) B G RL M L NL f (nI n) := by
  intro d
  induction d with
  | zero =>
    intro n hn h1 hp f hf
    obtain ⟨f, rfl⟩ : ∃ m, f = m + 1 := ⟨f - 1, by omega⟩
    exact br_t (nI_lt (by omega) (by omega)) hp
  | succ d ih =>
    intro n hn h1 hp f hf
    obtain ⟨f, rfl⟩ : ∃ m, f = m + 1 := ⟨f - 1, by omega⟩
    refine br_f (nI_nlt (by omega) (by omega)) ?_
    have key : wX_leastIgnored_39 post (wX_leastIgnored_12 post fo bl (nI rc) (nI nc) B G RL M L NL f) fo (nI n) (ig_fo fo nc n) (nI n) bl (nI rc) (nI nc) B G RL M L NL := by
      refine ig_x39 hrc hru h1 (by omega) hN (fun h => ?_) (fun h => ?_)
      · rw [ig_cat h] at hp
        exact hp
      · rw [ig_caf h] at hp
        exact ih (n + 1) (by omega) (by omega) hp f (by omega)
    by_cases h0 : fo = 0
    · by_cases hle : nc ≤ n
      · have e : ig_fo fo nc n = 0 := by unfold ig_fo; rw [if_pos h0, if_pos hle]
        rw [e] at key
        exact br_t h0 (br_t (nI_le hle (by omega)) key)
      · have e : ig_fo fo nc n = 1 := by unfold ig_fo; rw [if_pos h0, if_neg hle]
        rw [e] at key
        exact br_t h0 (br_f (nI_ge (by omega) (by omega)) key)
    · have e : ig_fo fo nc n = 1 := by unfold ig_fo; rw [if_neg h0]
      rw [e] at key
      exact br_f h0 key
theorem ig_xip {post : Int32 → Prop} (hc1 : 1 ≤ nc) (hc : nc ≤ 6) (h0 : NL (nc - 1) ≤ 0 → post 0) (h1 : ¬ NL (nc - 1) ≤ 0 → post 1) : wpX_isPath post (bl, nI rc, nI nc, B, G, RL, M, L, NL) := by
  have e : nI nc - 1 = nI (nc - 1) := pk_sub (b := 1) hc1
  have hcl : (nI (nc - 1)).toNatClampNeg = nc - 1 := nI_clamp (by omega)
  unfold wpX_isPath
  dsimp only
  rw [e, hcl]
  exact ⟨vp_in_nI (by omega) (by omega), h0, h1⟩
theorem ig_xli {post : Int32 → Prop} {fo : Int32} (hrc : rc ≤ 12) (hru : ig_ru G RL rc) (hc1 : 1 ≤ nc) (hc : nc ≤ 6) (hN : ∀ j, ∃ m, m ≤ 8 ∧ NL j = nI m) (h0 : NL (nc - 1) ≤ 0 → post (-5)) (h1 : ¬ NL (nc - 1) ≤ 0 → post (ig_ca (ig_Q G RL M L NL rc nc fo) nc 1)) : wpX_leastIgnored post (bl, nI rc, nI nc, B, G, RL, M, L, NL) fo := by
  unfold wpX_leastIgnored
  dsimp only
  refine ig_xip hc1 hc (fun h => br_t rfl (h0 h)) (fun h => br_f (by decide) ⟨nc + 1, ?_⟩)
  exact ig_x12 hrc hru hc hN nc 1 (by omega) (by omega) (h1 h) _ (by omega)
theorem ig_x13 {post : Int32 → Prop} {fo : Int32} (hrc : rc ≤ 12) (hru : ig_ru G RL rc) (hc1 : 1 ≤ nc) (hc : nc ≤ 6) (hN : ∀ j, ∃ m, m ≤ 8 ∧ NL j = nI m) (hp : post (ig_cn (fun r => ig_mr G RL M L NL r nc fo) rc)) : ∀ d r, r + d = rc → ∀ f, d < f → wX_matches_13 post fo bl (nI rc) (nI nc) B G RL M L NL f (ig_cn (fun r => ig_mr G RL M L NL r nc fo) r) (nI r) := by
  intro d
  induction d with
  | zero =>
    intro r hr f hf
    obtain ⟨f, rfl⟩ : ∃ m, f = m + 1 := ⟨f - 1, by omega⟩
    have e : r = rc := by omega
    subst e
    exact br_t (nI_le (by omega) (by omega)) hp
  | succ d ih =>
    intro r hr f hf
    obtain ⟨f, rfl⟩ : ∃ m, f = m + 1 := ⟨f - 1, by omega⟩
    have h2 := ih (r + 1) (by omega) f (by omega)
    refine br_f (nI_ge (by omega) (by omega)) (ig_xrm hrc hru (by omega) hc1 hc hN (fun h => ?_) (fun h => ?_))
    · rw [ig_cnt h] at h2
      exact br_f (by decide) (nm_e (nm_r (nI_1 r) h2))
    · rw [ig_cnf h] at h2
      exact br_t rfl (nm_r (nI_1 r) h2)
end
end
section
-- the reference's walks against the picture
def ig_hd (ls : List (Nat × Nat)) (PF PT : Nat → Int32) : Prop := ∀ j s t, ls[j]? = some (s, t) → PF j = nI s ∧ PT j = nI t
theorem ig_hd1 {ls : List (Nat × Nat)} {PF PT : Nat → Int32} {s t : Nat} (h : ig_hd ls PF PT) : ig_hd (ls ++ [(s, t)]) (upd PF ls.length (nI s)) (upd PT ls.length (nI t)) := by
  intro j a b hj
  rcases Nat.lt_or_ge j ls.length with hl | hl
  · rw [List.getElem?_append_left hl] at hj
    rw [pk_un (by omega), pk_un (by omega)]
    exact h j a b hj
  · obtain ⟨i, rfl⟩ : ∃ i, j = ls.length + i := ⟨j - ls.length, by omega⟩
    rw [List.getElem?_append_right (by omega), Nat.add_sub_cancel_left] at hj
    cases i with
    | zero =>
      simp at hj
      rw [Nat.add_zero, pk_us, pk_us, hj.1, hj.2]
      exact ⟨rfl, rfl⟩
    | succ i => simp at hj
def ig_is (x : Int32) (P : Prop) : Prop := (P ∧ x = 1) ∨ (¬ P ∧ x = 0)
theorem ig_ix0 (p q : Nat) : nI p * 11 + nI q = nI (p * 11 + q) := by
  rw [show (11 : Int32) = nI 11 from rfl, pk_mul, nI_add]
theorem ig_ix1 (p q : Nat) : (nI p + 1) * 11 + nI q = nI ((p + 1) * 11 + q) := by
  rw [nI_1, ig_ix0]
theorem ig_vn1 : vp_nar .boolean 1 = 1 := rfl
theorem ig_vn0 : vp_nar .boolean 0 = 0 := rfl
theorem ig_isn {x : Int32} {P : Prop} (h : ig_is x P) : vp_nar .boolean x = x := by
  rcases h with ⟨_, e⟩ | ⟨_, e⟩
  · rw [e]; exact ig_vn1
  · rw [e]; exact ig_vn0
theorem ig_isw {x : Int32} {P : Prop} (h : ig_is x P) : narrow .boolean (.int x) = .int x := by
  rcases h with ⟨_, e⟩ | ⟨_, e⟩
  · rw [e]; exact ig_nar1
  · rw [e]; exact ig_nar0
section
variable {bl rc nc pc : Int32} {B G RL K L NL PF PT RF LF : Nat → Int32}
theorem ig_y28 {post : SY → Prop} {e : Nat} (he : e ≤ 120) : ∀ d i s ls PF PT, i + d = e + 1 → ls.length + d ≤ 11 → ig_hd ls PF PT → (∀ PF' PT', ig_hd (ls ++ ig_cp G e d s) PF' PT' → post (bl, rc, nc, nI (ls ++ ig_cp G e d s).length, B, G, RL, K, L, NL, PF', PT', RF, LF)) → ∀ n, d < n → wY_cut_28 post (nI e) bl rc nc n (nI s) (nI i) (nI ls.length) B G RL K L NL PF PT RF LF := by
  intro d
  induction d with
  | zero =>
    intro i s ls PF PT hi hl hh hp n hd
    obtain ⟨n, rfl⟩ : ∃ m, n = m + 1 := ⟨n - 1, by omega⟩
    have hp2 := hp PF PT (by rw [ig_cp, List.append_nil]; exact hh)
    rw [ig_cp, List.append_nil] at hp2
    exact br_t (nI_lt (by omega) (by omega)) hp2
  | succ d ih =>
    intro i s ls PF PT hi hl hh hp n hd
    obtain ⟨n, rfl⟩ : ∃ m, n = m + 1 := ⟨n - 1, by omega⟩
    refine br_f (nI_nlt (by omega) (by omega)) ?_
    have hcut : (d = 0 ∨ G i = 9) → wY_cut_52 post (wY_cut_28 post (nI e) bl rc nc n) (nI s) (nI e) (nI i) bl rc nc (nI ls.length) B G RL K L NL PF PT RF LF := by
      intro hc
      rw [ig_cpc (i := i) (by omega) hc, List.append_cons] at hp
      have hcl : (nI ls.length).toNatClampNeg = ls.length := nI_clamp (by omega)
      have hin : vp_in (nI ls.length) 11 := vp_in_nI (by omega) (by omega)
      have hlen : nI ls.length + 1 = nI (ls ++ [(s, i)]).length := by rw [nI_1, List.length_append]; rfl
      refine ⟨hin, nm_r (e' := upd PF ls.length (nI s)) (by rw [hcl]) ⟨hin, nm_r (e' := upd PT ls.length (nI i)) (by rw [hcl]) (nm_r hlen (nm_r (nI_1 i) (nm_r (nI_1 i) ?_)))⟩⟩
      exact ih (i + 1) (i + 1) (ls ++ [(s, i)]) _ _ (by omega) (by rw [List.length_append]; simp; omega) (ig_hd1 hh) hp n (by omega)
    rcases Nat.eq_zero_or_pos d with hd0 | hd0
    · have e1 : i = e := by omega
      exact br_t (congrArg nI e1) (hcut (Or.inl hd0))
    · refine br_f (fun h => ?_) ⟨vp_in_nI (by omega) (by omega), ?_⟩
      · have := (nI_eq (by omega) (by omega)).mp h
        omega
      · have hcl : (nI i).toNatClampNeg = i := nI_clamp (by omega)
        rw [hcl]
        by_cases hg : G i = 9
        · exact br_t hg (hcut (Or.inr hg))
        · rw [ig_cpn (i := i) (by omega) hd0 hg] at hp
          exact br_f hg (nm_r (nI_1 i) (ih (i + 1) s ls PF PT (by omega) (by omega) hh hp n (by omega)))
theorem ig_ycut {post : SY → Prop} {r m : Nat} (hr : r < 12) (hm : m ≤ 10) (hR : RL r = nI m) (hp : ∀ PF' PT', ig_hd (ig_cp G (r * 10 + m) (m + 1) (r * 10)) PF' PT' → post (bl, rc, nc, nI (ig_cp G (r * 10 + m) (m + 1) (r * 10)).length, B, G, RL, K, L, NL, PF', PT', RF, LF)) : wpY_cut post (bl, rc, nc, pc, B, G, RL, K, L, NL, PF, PT, RF, LF) (nI r) := by
  have h0 : nI r * 10 = nI (r * 10) := pk_mul r 10
  have h3 : nI r * 10 + RL (nI r).toNatClampNeg = nI (r * 10 + m) := by rw [nI_clamp (by omega), hR, h0]; exact nI_add _ _
  refine nm_r h0 ⟨vp_in_nI hr (by omega), nm_r h3 (nm_r h0 ⟨m + 2, ?_⟩)⟩
  refine ig_y28 (ls := []) (by omega) (m + 1) (r * 10) (r * 10) PF PT (by omega) (by simp; omega) ?_ hp _ (by omega)
  intro j s t hj
  simp at hj
theorem ig_y77 {post : Int32 → SY → Prop} {J25 J34 : Int32 → (Nat → Int32) → (Nat → Int32) → (Nat → Int32) → (Nat → Int32) → (Nat → Int32) → (Nat → Int32) → (Nat → Int32) → (Nat → Int32) → (Nat → Int32) → (Nat → Int32) → Prop} {x1 c z0 : Int32} {nm len sz p q : Nat} {Fn Fp : Nat → Prop} (hnm : nm < 6) (hlen : len ≤ 10) (hp : p ≤ len) (hsz : sz ≤ 8) (hq : q ≤ sz) (hz : (z0 = 0 ∧ q = sz) ∨ (z0 = 1 ∧ q < sz))
    (hw : ∀ x9, ig_is x9 (Fp q) → wY_partFits_217 post J25 J34 x1 (nI nm) (nI len) (nI sz) (nI p) (nI q) x9 bl rc nc pc B G RL K L NL PF PT RF LF)
    (hn : p < len → ∀ q', q' ≤ sz → ig_is (RF ((p + 1) * 11 + q')) (Fn q')) (hr : ∀ q', q < q' → q' ≤ sz → ig_is (RF (p * 11 + q')) (Fp q'))
    (he : p = len → (Fp q ↔ q = sz)) (h7 : p < len → c = 7 → (Fp q ↔ Fn q ∨ (q < sz ∧ Fp (q + 1)))) (hc : p < len → ¬ c = 7 → (Fp q ↔ q < sz ∧ (c = 8 ∨ c = L (nm * 8 + q)) ∧ Fn (q + 1))) :
    wY_partFits_77 post J25 J34 x1 (nI nm) (nI len) (nI sz) (nI p) (nI q) c z0 bl rc nc pc B G RL K L NL PF PT RF LF := by
  by_cases hpl : p = len
  · refine br_t (congrArg nI hpl) ?_
    rcases hz with ⟨rfl, hq⟩ | ⟨rfl, hq⟩
    · exact br_t rfl (hw 1 (Or.inl ⟨(he hpl).mpr hq, rfl⟩))
    · refine br_f (by decide) (hw 0 (Or.inr ⟨fun h => ?_, rfl⟩))
      have := (he hpl).mp h
      omega
  · have hlt : p < len := by omega
    refine br_f (fun h => hpl ((nI_eq (by omega) (by omega)).mp h)) ?_
    by_cases hc7 : c = 7
    · have hc1 : ((nI p + 1) * 11 + nI q).toNatClampNeg = (p + 1) * 11 + q := by rw [ig_ix1]; exact nI_clamp (by omega)
      refine br_t hc7 ⟨by rw [ig_ix1]; exact vp_in_nI (by omega) (by omega), ?_⟩
      rw [hc1]
      rcases hn hlt q hq with ⟨hf, e⟩ | ⟨hf, e⟩
      · exact br_f (by rw [e]; decide) (hw 1 (Or.inl ⟨(h7 hlt hc7).mpr (Or.inl hf), rfl⟩))
      · refine br_t e ?_
        rcases hz with ⟨rfl, hq⟩ | ⟨rfl, hq⟩
        · refine br_t rfl (hw 0 (Or.inr ⟨fun h => ?_, rfl⟩))
          rcases (h7 hlt hc7).mp h with h2 | h2
          · exact hf h2
          · omega
        · have hi : nI p * 11 + nI q + 1 = nI (p * 11 + (q + 1)) := by rw [ig_ix0, nI_1]; rfl
          have hc2 : (nI p * 11 + nI q + 1).toNatClampNeg = p * 11 + (q + 1) := by rw [hi]; exact nI_clamp (by omega)
          refine br_f (by decide) ⟨by rw [hi]; exact vp_in_nI (by omega) (by omega), ?_⟩
          rw [hc2]
          rcases hr (q + 1) (by omega) (by omega) with ⟨hg, e2⟩ | ⟨hg, e2⟩
          · exact br_f (by rw [e2]; decide) (hw 1 (Or.inl ⟨(h7 hlt hc7).mpr (Or.inr ⟨hq, hg⟩), rfl⟩))
          · refine br_t e2 (hw 0 (Or.inr ⟨fun h => ?_, rfl⟩))
            rcases (h7 hlt hc7).mp h with h2 | h2
            · exact hf h2
            · exact hg h2.2
    · refine br_f hc7 ?_
      have hi := hc hlt hc7
      rcases hz with ⟨rfl, hq⟩ | ⟨rfl, hq⟩
      · refine br_t rfl (hw 0 (Or.inr ⟨fun h => ?_, rfl⟩))
        have := (hi.mp h).1
        omega
      · refine br_f (by decide) ?_
        have h190 : (c = 8 ∨ c = L (nm * 8 + q)) → wY_partFits_190 post J25 J34 x1 (nI nm) (nI len) (nI sz) (nI p) (nI q) bl rc nc pc B G RL K L NL PF PT RF LF := by
          intro hm
          have hj : (nI p + 1) * 11 + nI q + 1 = nI ((p + 1) * 11 + (q + 1)) := by rw [ig_ix1, nI_1]; rfl
          have hc2 : ((nI p + 1) * 11 + nI q + 1).toNatClampNeg = (p + 1) * 11 + (q + 1) := by rw [hj]; exact nI_clamp (by omega)
          refine ⟨by rw [hj]; exact vp_in_nI (by omega) (by omega), ?_⟩
          rw [hc2]
          rcases hn hlt (q + 1) (by omega) with ⟨hf, e⟩ | ⟨hf, e⟩
          · exact br_f (by rw [e]; decide) (hw 1 (Or.inl ⟨hi.mpr ⟨hq, hm, hf⟩, rfl⟩))
          · exact br_t e (hw 0 (Or.inr ⟨fun h => hf (hi.mp h).2.2, rfl⟩))
        by_cases h8 : c = 8
        · exact br_t h8 (h190 (Or.inl h8))
        · have hj : nI nm * 8 + nI q = nI (nm * 8 + q) := by rw [show (8 : Int32) = nI 8 from rfl, pk_mul, nI_add]
          have hc2 : (nI nm * 8 + nI q).toNatClampNeg = nm * 8 + q := by rw [hj]; exact nI_clamp (by omega)
          refine br_f h8 ⟨by rw [hj]; exact vp_in_nI (by omega) (by omega), ?_⟩
          rw [hc2]
          by_cases hl : c = L (nm * 8 + q)
          · exact br_t hl (h190 (Or.inr hl))
          · refine br_f hl (hw 0 (Or.inr ⟨fun h => ?_, rfl⟩))
            rcases (hi.mp h).2.1 with h2 | h2
            · exact h8 h2
            · exact hl h2
theorem ig_rowU {T : Nat → Int32} {p q sz : Nat} {x : Int32} {F : Nat → Prop} (hx : ig_is x (F q)) (h : ∀ q', q < q' → q' ≤ sz → ig_is (T (p * 11 + q')) (F q')) : ∀ q', q ≤ q' → q' ≤ sz → ig_is (upd T (p * 11 + q) x (p * 11 + q')) (F q') := by
  intro q' h1 h2
  by_cases e : q' = q
  · subst e
    rw [pk_us]
    exact hx
  · rw [pk_un (by omega)]
    exact h q' (by omega) h2
theorem ig_y34 {post : Int32 → SY → Prop} {J25 : Int32 → (Nat → Int32) → (Nat → Int32) → (Nat → Int32) → (Nat → Int32) → (Nat → Int32) → (Nat → Int32) → (Nat → Int32) → (Nat → Int32) → (Nat → Int32) → (Nat → Int32) → Prop} {nm len sz p pt s t : Nat} (hnm : nm < 6) (hlen : len ≤ 10) (hp : p ≤ len) (hsz : sz ≤ 8) (hpt : pt < 11) (hPF : PF pt = nI s) (hst : s + len = t) (ht : t ≤ 120) : ∀ k RF, k ≤ sz + 1 →
    (p < len → ∀ q', q' ≤ sz → ig_is (RF ((p + 1) * 11 + q')) (ig_ft G (fun k => L (nm * 8 + k)) sz t (len - (p + 1)) q')) → (∀ q', k ≤ q' → q' ≤ sz → ig_is (RF (p * 11 + q')) (ig_ft G (fun k => L (nm * 8 + k)) sz t (len - p) q')) →
    (∀ RF', (∀ q', q' ≤ sz → ig_is (RF' (p * 11 + q')) (ig_ft G (fun k => L (nm * 8 + k)) sz t (len - p) q')) → J25 (nI p + (-1)) B G RL K L NL PF PT RF' LF) →
    ∀ n, k < n → wY_partFits_34 post J25 (nI pt) (nI nm) (nI len) (nI sz) (nI p) bl rc nc pc n (nI k + (-1)) B G RL K L NL PF PT RF LF := by
  intro k
  induction k with
  | zero =>
    intro RF hk hn hr hJ n hd
    obtain ⟨n, rfl⟩ : ∃ m, n = m + 1 := ⟨n - 1, by omega⟩
    exact br_t (by decide) (nm_e (hJ RF fun q' h => hr q' (Nat.zero_le _) h))
  | succ q ih =>
    intro RF hk hn hr hJ n hd
    obtain ⟨n, rfl⟩ : ∃ m, n = m + 1 := ⟨n - 1, by omega⟩
    rw [pk_m1]
    refine br_f (nI_pos (by omega)) ?_
    have hw : ∀ x9, ig_is x9 (ig_ft G (fun k => L (nm * 8 + k)) sz t (len - p) q) → wY_partFits_217 post J25 (wY_partFits_34 post J25 (nI pt) (nI nm) (nI len) (nI sz) (nI p) bl rc nc pc n) (nI pt) (nI nm) (nI len) (nI sz) (nI p) (nI q) x9 bl rc nc pc B G RL K L NL PF PT RF LF := by
      intro x9 hx
      have hc1 : (nI p * 11 + nI q).toNatClampNeg = p * 11 + q := by rw [ig_ix0]; exact nI_clamp (by omega)
      refine ⟨by rw [ig_ix0]; exact vp_in_nI (by omega) (by omega), nm_r (e' := upd RF (p * 11 + q) x9) (by rw [hc1, ig_isn hx]) (nm_e ?_)⟩
      refine ih _ (by omega) (fun hlt q' h2 => ?_) (ig_rowU hx fun q' h1 h2 => hr q' (by omega) h2) hJ n (by omega)
      rw [pk_un (by omega)]
      exact hn hlt q' h2
    have h77 : ∀ c, (p < len → c = G (s + p)) → wY_partFits_63 post J25 (wY_partFits_34 post J25 (nI pt) (nI nm) (nI len) (nI sz) (nI p) bl rc nc pc n) (nI pt) (nI nm) (nI len) (nI sz) (nI p) (nI q) c bl rc nc pc B G RL K L NL PF PT RF LF := by
      intro c hc
      have h2 : ∀ z0, ((z0 = 0 ∧ q = sz) ∨ (z0 = 1 ∧ q < sz)) → wY_partFits_77 post J25 (wY_partFits_34 post J25 (nI pt) (nI nm) (nI len) (nI sz) (nI p) bl rc nc pc n) (nI pt) (nI nm) (nI len) (nI sz) (nI p) (nI q) c z0 bl rc nc pc B G RL K L NL PF PT RF LF := by
        intro z0 hz
        refine ig_y77 (Fn := ig_ft G (fun k => L (nm * 8 + k)) sz t (len - (p + 1))) (Fp := ig_ft G (fun k => L (nm * 8 + k)) sz t (len - p)) hnm hlen hp hsz (by omega) hz hw hn (fun q' h1 h2 => hr q' (by omega) h2) ?_ ?_ ?_
        · intro e
          have e2 : len - p = 0 := by omega
          rw [e2]
          exact Iff.rfl
        · intro hlt h7
          rw [hc hlt] at h7
          have e2 : len - p = len - (p + 1) + 1 := by omega
          rw [e2]
          exact ig_sy (ig_ft7 (i := s + p) (by omega) h7) (by omega)
        · intro hlt h7
          rw [hc hlt] at h7 ⊢
          have e2 : len - p = len - (p + 1) + 1 := by omega
          rw [e2]
          exact ig_ftn (i := s + p) (by omega) h7 q
      by_cases hq : sz ≤ q
      · exact br_t (nI_le hq (by omega)) (h2 0 (Or.inl ⟨rfl, by omega⟩))
      · exact br_f (nI_ge (by omega) (by omega)) (h2 1 (Or.inr ⟨rfl, by omega⟩))
    by_cases hpl : len ≤ p
    · exact br_t (nI_le hpl (by omega)) (h77 0 fun h => by omega)
    · have hcl : (nI pt).toNatClampNeg = pt := nI_clamp (by omega)
      refine br_f (nI_ge (by omega) (by omega)) ⟨vp_in_nI hpt (by omega), ?_⟩
      rw [hcl, hPF, nI_add s p, nI_clamp (n := s + p) (by omega)]
      exact ⟨vp_in_nI (by omega) (by omega), h77 _ fun _ => rfl⟩
theorem ig_y25 {post : Int32 → SY → Prop} {nm len sz pt s t : Nat} (hnm : nm < 6) (hlen : len ≤ 10) (hsz : sz ≤ 8) (hpt : pt < 11) (hPF : PF pt = nI s) (hst : s + len = t) (ht : t ≤ 120) (h1 : ∀ RF', ig_ft G (fun k => L (nm * 8 + k)) sz t len 0 → post 1 (bl, rc, nc, pc, B, G, RL, K, L, NL, PF, PT, RF', LF)) (h0 : ∀ RF', ¬ ig_ft G (fun k => L (nm * 8 + k)) sz t len 0 → post 0 (bl, rc, nc, pc, B, G, RL, K, L, NL, PF, PT, RF', LF)) : ∀ k RF, k ≤ len + 1 →
    (k ≤ len → ∀ q', q' ≤ sz → ig_is (RF (k * 11 + q')) (ig_ft G (fun k => L (nm * 8 + k)) sz t (len - k) q')) →
    ∀ n, k < n → wY_partFits_25 post (nI pt) (nI nm) (nI len) (nI sz) bl rc nc pc n (nI k + (-1)) B G RL K L NL PF PT RF LF := by
  intro k
  induction k with
  | zero =>
    intro RF hk hn n hd
    obtain ⟨n, rfl⟩ : ∃ m, n = m + 1 := ⟨n - 1, by omega⟩
    have h := hn (Nat.zero_le _) 0 (Nat.zero_le _)
    have h : ig_is (RF 0) (ig_ft G (fun k => L (nm * 8 + k)) sz t len 0) := h
    refine br_t (by decide) ⟨ig_isw h, ?_⟩
    rcases h with ⟨h, e⟩ | ⟨h, e⟩
    · rw [e]; exact h1 RF h
    · rw [e]; exact h0 RF h
  | succ p ih =>
    intro RF hk hn n hd
    obtain ⟨n, rfl⟩ : ∃ m, n = m + 1 := ⟨n - 1, by omega⟩
    rw [pk_m1]
    refine br_f (nI_pos (by omega)) ⟨sz + 2, ?_⟩
    have key := fun J hJ => ig_y34 (post := post) (J25 := J) (bl := bl) (rc := rc) (nc := nc) (pc := pc) (B := B) (G := G) (RL := RL) (K := K) (L := L) (NL := NL) (PF := PF) (PT := PT) (LF := LF) hnm hlen (by omega : p ≤ len) hsz hpt hPF hst ht (sz + 1) RF (Nat.le_refl _) (fun hlt => hn (by omega)) (fun q' h3 h4 => by omega) hJ (sz + 2) (by omega)
    rw [pk_m1 sz] at key
    exact key _ fun RF' hr => ih RF' (by omega) (fun _ => hr) n (by omega)
theorem ig_ypf {post : Int32 → SY → Prop} {nm pt s t : Nat} (hpt : pt < 11) (hPF : PF pt = nI s) (hPT : PT pt = nI t) (hst : s ≤ t) (hst2 : t ≤ s + 10) (ht : t ≤ 120) (hnm : nm < 6) (hN : ∀ j, ∃ m, m ≤ 8 ∧ NL j = nI m) (h1 : ∀ RF', ig_pf G L NL s t nm → post 1 (bl, rc, nc, pc, B, G, RL, K, L, NL, PF, PT, RF', LF)) (h0 : ∀ RF', ¬ ig_pf G L NL s t nm → post 0 (bl, rc, nc, pc, B, G, RL, K, L, NL, PF, PT, RF', LF)) : wpY_partFits post (bl, rc, nc, pc, B, G, RL, K, L, NL, PF, PT, RF, LF) (nI pt) (nI nm) := by
  obtain ⟨sz, hs, hz⟩ := hN nm
  have hz2 : (NL nm).toNatClampNeg = sz := by rw [hz]; exact nI_clamp (by omega)
  have hz3 : NL (nI nm).toNatClampNeg = nI sz := by rw [nI_clamp (by omega)]; exact hz
  have hd : PT (nI pt).toNatClampNeg - PF (nI pt).toNatClampNeg = nI (t - s) := by rw [nI_clamp (by omega), hPF, hPT]; exact pk_sub hst
  unfold ig_pf at h1 h0
  rw [hz2] at h1 h0
  have hin : vp_in (nI pt) 11 := vp_in_nI hpt (by omega)
  refine ⟨hin, hin, nm_r hd ⟨vp_in_nI hnm (by omega), nm_r hz3 ⟨t - s + 2, ?_⟩⟩⟩
  have key := ig_y25 hnm (by omega) hs hpt hPF (by omega : s + (t - s) = t) ht h1 h0 (t - s + 1) RF (Nat.le_refl _) (fun h => by omega) (t - s + 2) (by omega)
  rw [pk_m1] at key
  exact key
end
end
section
-- the list of a good rule's parts
theorem ig_cpE {G : Nat → Int32} {e : Nat} (h9 : ¬ G (e - 1) = 9) : ∀ d i s, i + d = e + 1 → s ≤ i → (d = 0 ∨ s < e) → ∀ p, p ∈ ig_cp G e d s → s ≤ p.1 ∧ p.1 ≤ p.2 ∧ p.2 ≤ e ∧ p.1 < e := by
  intro d
  induction d with
  | zero =>
    intro i s _ _ _ p hp
    rw [ig_cp] at hp
    cases hp
  | succ d ih =>
    intro i s hi hs he p hp
    by_cases hc : d = 0 ∨ G i = 9
    · rw [ig_cpc (i := i) (by omega) hc, List.mem_cons] at hp
      have hs' : d = 0 ∨ i + 1 < e := by
        rcases Nat.eq_zero_or_pos d with h | h
        · exact Or.inl h
        · rcases hc with h' | h'
          · omega
          · refine Or.inr ?_
            rcases Nat.lt_or_ge (i + 1) e with h2 | h2
            · exact h2
            · have e1 : i = e - 1 := by omega
              rw [e1] at h'
              exact absurd h' h9
      rcases hp with rfl | hp
      · exact ⟨Nat.le_refl s, hs, (by omega : i ≤ e), (by omega : s < e)⟩
      · have := ih (i + 1) (i + 1) (by omega) (Nat.le_refl _) hs' p hp
        omega
    · rw [ig_cpn (i := i) (by omega) (by omega) (fun h => hc (Or.inr h))] at hp
      have := ih (i + 1) s (by omega) (by omega) (Or.inr (by omega)) p hp
      omega
theorem ig_cpB {G : Nat → Int32} {r m : Nat} (hm : 1 ≤ m) (hm2 : m ≤ 10) (h9 : ¬ G (r * 10) = 9) : (ig_cp G (r * 10 + m) (m + 1) (r * 10)).length ≤ 10 := by
  rw [ig_cpn (i := r * 10) (by omega) (by omega) h9]
  have := ig_cpL (G := G) (e := r * 10 + m) m (r * 10)
  omega
def ig_lo (ls : List (Nat × Nat)) : Prop := ∀ j s t : Nat, ls[j]? = some (s, t) → s ≤ t ∧ t ≤ s + 10 ∧ t ≤ 120 ∧ s < 120
theorem ig_cpO {G : Nat → Int32} {r m : Nat} (hr : r < 12) (hm : 1 ≤ m) (hm2 : m ≤ 10) (h9 : ¬ G (r * 10 + m - 1) = 9) : ig_lo (ig_cp G (r * 10 + m) (m + 1) (r * 10)) := by
  intro j s t hj
  have := ig_cpE h9 (m + 1) (r * 10) (r * 10) (by omega) (Nat.le_refl _) (Or.inr (by omega)) (s, t) (List.mem_of_getElem? hj)
  omega
section
variable {bl rc nc : Int32} {B G RL K L NL PF PT RF LF : Nat → Int32}
theorem ig_yA25 {post : Int32 → SY → Prop} {J5 J11 : Int32 → Int32 → Int32 → Int32 → Int32 → (Nat → Int32) → (Nat → Int32) → (Nat → Int32) → (Nat → Int32) → (Nat → Int32) → (Nat → Int32) → (Nat → Int32) → (Nat → Int32) → (Nat → Int32) → (Nat → Int32) → Prop} {z0 : Int32} {nn pl p q s t : Nat} {Fn Fp : Nat → Prop} (hnn : nn ≤ 6) (hpl : pl ≤ 10) (hp : p ≤ pl) (hq : q ≤ nn) (hz : (z0 = 0 ∧ q = nn) ∨ (z0 = 1 ∧ q < nn)) (hN : ∀ j, ∃ m, m ≤ 8 ∧ NL j = nI m)
    (hpt : p < pl → PF p = nI s ∧ PT p = nI t ∧ s ≤ t ∧ t ≤ s + 10 ∧ t ≤ 120 ∧ s < 120)
    (hw : ∀ RF' x5, ig_is x5 (Fp q) → wY_allFit_147 post J5 J11 (nI nn) (nI p) (nI q) x5 bl rc nc (nI pl) B G RL K L NL PF PT RF' LF)
    (hn : p < pl → ∀ q', q' ≤ nn → ig_is (LF ((p + 1) * 11 + q')) (Fn q')) (hr : ∀ q', q < q' → q' ≤ nn → ig_is (LF (p * 11 + q')) (Fp q'))
    (he : p = pl → (Fp q ↔ q = nn)) (h7 : p < pl → G s = 10 → (Fp q ↔ Fn q ∨ (q < nn ∧ Fp (q + 1)))) (hc : p < pl → ¬ G s = 10 → (Fp q ↔ q < nn ∧ ig_pf G L NL s t q ∧ Fn (q + 1))) :
    wY_allFit_25 post J5 J11 (nI nn) (nI p) (nI q) z0 bl rc nc (nI pl) B G RL K L NL PF PT RF LF := by
  by_cases hpe : p = pl
  · refine br_t (congrArg nI hpe) ?_
    rcases hz with ⟨rfl, hq⟩ | ⟨rfl, hq⟩
    · exact br_t rfl (hw RF 1 (Or.inl ⟨(he hpe).mpr hq, rfl⟩))
    · refine br_f (by decide) (hw RF 0 (Or.inr ⟨fun h => ?_, rfl⟩))
      have := (he hpe).mp h
      omega
  · have hlt : p < pl := by omega
    obtain ⟨hPF, hPT, b1, b2, b3, b4⟩ := hpt hlt
    refine br_f (fun h => hpe ((nI_eq (by omega) (by omega)).mp h)) ⟨vp_in_nI (by omega) (by omega), ?_⟩
    have hcp : (nI p).toNatClampNeg = p := nI_clamp (by omega)
    have hcs : (nI s).toNatClampNeg = s := nI_clamp (by omega)
    rw [hcp, hPF, hcs]
    refine ⟨vp_in_nI b4 (by omega), ?_⟩
    by_cases hc7 : G s = 10
    · have hc1 : ((nI p + 1) * 11 + nI q).toNatClampNeg = (p + 1) * 11 + q := by rw [ig_ix1]; exact nI_clamp (by omega)
      refine br_t hc7 ⟨by rw [ig_ix1]; exact vp_in_nI (by omega) (by omega), ?_⟩
      rw [hc1]
      rcases hn hlt q hq with ⟨hf, e⟩ | ⟨hf, e⟩
      · exact br_f (by rw [e]; decide) (hw RF 1 (Or.inl ⟨(h7 hlt hc7).mpr (Or.inl hf), rfl⟩))
      · refine br_t e ?_
        rcases hz with ⟨rfl, hq⟩ | ⟨rfl, hq⟩
        · refine br_t rfl (hw RF 0 (Or.inr ⟨fun h => ?_, rfl⟩))
          rcases (h7 hlt hc7).mp h with h2 | h2
          · exact hf h2
          · omega
        · have hi : nI p * 11 + nI q + 1 = nI (p * 11 + (q + 1)) := by rw [ig_ix0, nI_1]; rfl
          have hc2 : (nI p * 11 + nI q + 1).toNatClampNeg = p * 11 + (q + 1) := by rw [hi]; exact nI_clamp (by omega)
          refine br_f (by decide) ⟨by rw [hi]; exact vp_in_nI (by omega) (by omega), ?_⟩
          rw [hc2]
          rcases hr (q + 1) (by omega) (by omega) with ⟨hg, e2⟩ | ⟨hg, e2⟩
          · exact br_f (by rw [e2]; decide) (hw RF 1 (Or.inl ⟨(h7 hlt hc7).mpr (Or.inr ⟨hq, hg⟩), rfl⟩))
          · refine br_t e2 (hw RF 0 (Or.inr ⟨fun h => ?_, rfl⟩))
            rcases (h7 hlt hc7).mp h with h2 | h2
            · exact hf h2
            · exact hg h2.2
    · refine br_f hc7 ?_
      have hi := hc hlt hc7
      rcases hz with ⟨rfl, hq⟩ | ⟨rfl, hq⟩
      · refine br_t rfl (hw RF 0 (Or.inr ⟨fun h => ?_, rfl⟩))
        have := (hi.mp h).1
        omega
      · have hj : (nI p + 1) * 11 + nI q + 1 = nI ((p + 1) * 11 + (q + 1)) := by rw [ig_ix1, nI_1]; rfl
        have hc2 : ((nI p + 1) * 11 + nI q + 1).toNatClampNeg = (p + 1) * 11 + (q + 1) := by rw [hj]; exact nI_clamp (by omega)
        refine br_f (by decide) ⟨by rw [hj]; exact vp_in_nI (by omega) (by omega), ?_⟩
        rw [hc2]
        rcases hn hlt (q + 1) (by omega) with ⟨hf, e⟩ | ⟨hf, e⟩
        · refine br_f (by rw [e]; decide) (ig_ypf (by omega) hPF hPT b1 b2 b3 (by omega) hN (fun RF' h => ?_) (fun RF' h => ?_))
          · exact hw RF' 1 (Or.inl ⟨hi.mpr ⟨hq, h, hf⟩, rfl⟩)
          · exact hw RF' 0 (Or.inr ⟨fun h2 => h (hi.mp h2).2.1, rfl⟩)
        · exact br_t e (hw RF 0 (Or.inr ⟨fun h => hf (hi.mp h).2.2, rfl⟩))
theorem ig_yA11 {post : Int32 → SY → Prop} {J5 : Int32 → Int32 → Int32 → Int32 → Int32 → (Nat → Int32) → (Nat → Int32) → (Nat → Int32) → (Nat → Int32) → (Nat → Int32) → (Nat → Int32) → (Nat → Int32) → (Nat → Int32) → (Nat → Int32) → (Nat → Int32) → Prop} {nn p : Nat} {ls : List (Nat × Nat)} (hnn : nn ≤ 6) (hpl : ls.length ≤ 10) (hp : p ≤ ls.length) (hh : ig_hd ls PF PT) (ho : ig_lo ls) (hN : ∀ j, ∃ m, m ≤ 8 ∧ NL j = nI m) : ∀ k RF LF, k ≤ nn + 1 →
    (p < ls.length → ∀ q', q' ≤ nn → ig_is (LF ((p + 1) * 11 + q')) (ig_al G L NL nn (ls.drop (p + 1)) q')) → (∀ q', k ≤ q' → q' ≤ nn → ig_is (LF (p * 11 + q')) (ig_al G L NL nn (ls.drop p) q')) →
    (∀ RF' LF', (∀ q', q' ≤ nn → ig_is (LF' (p * 11 + q')) (ig_al G L NL nn (ls.drop p) q')) → J5 (nI p + (-1)) bl rc nc (nI ls.length) B G RL K L NL PF PT RF' LF') →
    ∀ n, k < n → wY_allFit_11 post J5 (nI nn) (nI p) n (nI k + (-1)) bl rc nc (nI ls.length) B G RL K L NL PF PT RF LF := by
  intro k
  induction k with
  | zero =>
    intro RF LF hk hn hr hJ n hd
    obtain ⟨n, rfl⟩ : ∃ m, n = m + 1 := ⟨n - 1, by omega⟩
    exact br_t (by decide) (nm_e (hJ RF LF fun q' h => hr q' (Nat.zero_le _) h))
  | succ q ih =>
    intro RF LF hk hn hr hJ n hd
    obtain ⟨n, rfl⟩ : ∃ m, n = m + 1 := ⟨n - 1, by omega⟩
    rw [pk_m1]
    refine br_f (nI_pos (by omega)) ?_
    have hw : ∀ RF' x5, ig_is x5 (ig_al G L NL nn (ls.drop p) q) → wY_allFit_147 post J5 (wY_allFit_11 post J5 (nI nn) (nI p) n) (nI nn) (nI p) (nI q) x5 bl rc nc (nI ls.length) B G RL K L NL PF PT RF' LF := by
      intro RF' x5 hx
      have hc1 : (nI p * 11 + nI q).toNatClampNeg = p * 11 + q := by rw [ig_ix0]; exact nI_clamp (by omega)
      refine ⟨by rw [ig_ix0]; exact vp_in_nI (by omega) (by omega), nm_r (e' := upd LF (p * 11 + q) x5) (by rw [hc1, ig_isn hx]) (nm_e ?_)⟩
      refine ih RF' _ (by omega) (fun hlt q' h2 => ?_) (ig_rowU hx fun q' h1 h2 => hr q' (by omega) h2) hJ n (by omega)
      rw [pk_un (by omega)]
      exact hn hlt q' h2
    have h2 : ∀ z0, ((z0 = 0 ∧ q = nn) ∨ (z0 = 1 ∧ q < nn)) → wY_allFit_25 post J5 (wY_allFit_11 post J5 (nI nn) (nI p) n) (nI nn) (nI p) (nI q) z0 bl rc nc (nI ls.length) B G RL K L NL PF PT RF LF := by
      intro z0 hz
      have hx : ∃ s t, p < ls.length → (ls[p]? = some (s, t) ∧ ls.drop p = (s, t) :: ls.drop (p + 1)) := by
        by_cases hlt : p < ls.length
        · exact ⟨ls[p].1, ls[p].2, fun _ => ⟨List.getElem?_eq_getElem hlt, List.drop_eq_getElem_cons hlt⟩⟩
        · exact ⟨0, 0, fun h => absurd h hlt⟩
      obtain ⟨s, t, hst⟩ := hx
      refine ig_yA25 (s := s) (t := t) (Fn := ig_al G L NL nn (ls.drop (p + 1))) (Fp := ig_al G L NL nn (ls.drop p)) hnn hpl hp (by omega) hz hN (fun hlt => ?_) hw hn (fun q' h1 h2 => hr q' (by omega) h2) ?_ ?_ ?_
      · have h3 := (hst hlt).1
        exact ⟨(hh p s t h3).1, (hh p s t h3).2, ho p s t h3⟩
      · intro e
        rw [e, List.drop_length]
        exact Iff.rfl
      · intro hlt h7
        rw [(hst hlt).2]
        exact ig_sy (ig_al7 h7) (by omega)
      · intro hlt h7
        rw [(hst hlt).2]
        exact ig_aln h7 q
    by_cases hq : nn ≤ q
    · exact br_t (nI_le hq (by omega)) (h2 0 (Or.inl ⟨rfl, by omega⟩))
    · exact br_f (nI_ge (by omega) (by omega)) (h2 1 (Or.inr ⟨rfl, by omega⟩))
theorem ig_yA5 {post : Int32 → SY → Prop} {nn : Nat} {ls : List (Nat × Nat)} (hnn : nn ≤ 6) (hpl : ls.length ≤ 10) (hh : ig_hd ls PF PT) (ho : ig_lo ls) (hN : ∀ j, ∃ m, m ≤ 8 ∧ NL j = nI m) (h1 : ∀ RF' LF', ig_al G L NL nn ls 0 → post 1 (bl, rc, nc, nI ls.length, B, G, RL, K, L, NL, PF, PT, RF', LF')) (h0 : ∀ RF' LF', ¬ ig_al G L NL nn ls 0 → post 0 (bl, rc, nc, nI ls.length, B, G, RL, K, L, NL, PF, PT, RF', LF')) : ∀ k RF LF, k ≤ ls.length + 1 →
    (k ≤ ls.length → ∀ q', q' ≤ nn → ig_is (LF (k * 11 + q')) (ig_al G L NL nn (ls.drop k) q')) →
    ∀ n, k < n → wY_allFit_5 post (nI nn) n (nI k + (-1)) bl rc nc (nI ls.length) B G RL K L NL PF PT RF LF := by
  intro k
  induction k with
  | zero =>
    intro RF LF hk hn n hd
    obtain ⟨n, rfl⟩ : ∃ m, n = m + 1 := ⟨n - 1, by omega⟩
    have h := hn (Nat.zero_le _) 0 (Nat.zero_le _)
    have h : ig_is (LF 0) (ig_al G L NL nn ls 0) := h
    refine br_t (by decide) ⟨ig_isw h, ?_⟩
    rcases h with ⟨h, e⟩ | ⟨h, e⟩
    · rw [e]; exact h1 RF LF h
    · rw [e]; exact h0 RF LF h
  | succ p ih =>
    intro RF LF hk hn n hd
    obtain ⟨n, rfl⟩ : ∃ m, n = m + 1 := ⟨n - 1, by omega⟩
    rw [pk_m1]
    refine br_f (nI_pos (by omega)) ⟨nn + 2, ?_⟩
    have key := fun J hJ => ig_yA11 (post := post) (J5 := J) (bl := bl) (rc := rc) (nc := nc) (B := B) (G := G) (RL := RL) (K := K) (L := L) (NL := NL) (PF := PF) (PT := PT) hnn hpl (by omega : p ≤ ls.length) hh ho hN (nn + 1) RF LF (Nat.le_refl _) (fun hlt => hn (by omega)) (fun q' h3 h4 => by omega) hJ (nn + 2) (by omega)
    rw [pk_m1 nn] at key
    exact key _ fun RF' LF' hr => ih RF' LF' (by omega) (fun _ => hr) n (by omega)
theorem ig_yal {post : Int32 → SY → Prop} {nn : Nat} {ls : List (Nat × Nat)} (hnn : nn ≤ 6) (hpl : ls.length ≤ 10) (hh : ig_hd ls PF PT) (ho : ig_lo ls) (hN : ∀ j, ∃ m, m ≤ 8 ∧ NL j = nI m) (h1 : ∀ RF' LF', ig_al G L NL nn ls 0 → post 1 (bl, rc, nc, nI ls.length, B, G, RL, K, L, NL, PF, PT, RF', LF')) (h0 : ∀ RF' LF', ¬ ig_al G L NL nn ls 0 → post 0 (bl, rc, nc, nI ls.length, B, G, RL, K, L, NL, PF, PT, RF', LF')) : wpY_allFit post (bl, rc, nc, nI ls.length, B, G, RL, K, L, NL, PF, PT, RF, LF) (nI nn) := by
  have key := ig_yA5 (bl := bl) (rc := rc) (nc := nc) (B := B) (RL := RL) (K := K) hnn hpl hh ho hN h1 h0 (ls.length + 1) RF LF (Nat.le_refl _) (fun h => by omega) (ls.length + 2) (by omega)
  rw [pk_m1] at key
  exact ⟨_, key⟩
end
end
section
-- the reference: a rule, the last that matches, the count, the least number of names
theorem ig_k1 (x : Int32) : (x &&& 7) &&& 1 = x &&& 1 := by rw [Int32.and_assoc]; rfl
theorem ig_k2 (x : Int32) : (x &&& 7) &&& 2 = x &&& 2 := by rw [Int32.and_assoc]; rfl
theorem ig_k4 (x : Int32) : (x &&& 7) &&& 4 = x &&& 4 := by rw [Int32.and_assoc]; rfl
section
variable {bl : Int32} {rc nc : Nat} {B G RL M L NL : Nat → Int32}
theorem ig_yr72 {post : Int32 → SY → Prop} {Q : Prop} {n : Nat} {ls : List (Nat × Nat)} {PF PT RF LF : Nat → Int32} (hn : n ≤ 6) (hpl : ls.length ≤ 10) (hh : ig_hd ls PF PT) (ho : ig_lo ls) (hN : ∀ j, ∃ m, m ≤ 8 ∧ NL j = nI m) (h1 : Q → ∀ pc PF PT RF LF, post 1 (bl, nI rc, nI nc, pc, B, G, RL, (fun i => M i &&& 7), L, NL, PF, PT, RF, LF)) (h0 : ¬ Q → ∀ pc PF PT RF LF, post 0 (bl, nI rc, nI nc, pc, B, G, RL, (fun i => M i &&& 7), L, NL, PF, PT, RF, LF)) (hq : Q ↔ ig_al G L NL n ls 0) : wY_matchesRule_72 post (nI n) bl (nI rc) (nI nc) (nI ls.length) B G RL (fun i => M i &&& 7) L NL PF PT RF LF :=
  ig_yal hn hpl hh ho hN (fun RF' LF' h => ⟨ig_nar1, h1 (hq.mpr h) _ _ _ _ _⟩) (fun RF' LF' h => ⟨ig_nar0, h0 (fun q => h (hq.mp q)) _ _ _ _ _⟩)
theorem ig_yr17 {post : Int32 → SY → Prop} {r m n : Nat} {fo pc : Int32} {PF PT RF LF : Nat → Int32} (hr : r < 12) (hm : 1 ≤ m) (hm2 : m ≤ 10) (hR : RL r = nI m) (hf9 : ¬ G (r * 10) = 9) (h9 : ¬ G (r * 10 + m - 1) = 9) (hn1 : 1 ≤ n) (hn : n ≤ 6) (hN : ∀ j, ∃ m, m ≤ 8 ∧ NL j = nI m) (ha : (M r &&& 4) = 0 ∨ ¬ fo = 0)
    (h1 : ig_mq G M L NL r m n fo → ∀ pc PF PT RF LF, post 1 (bl, nI rc, nI nc, pc, B, G, RL, (fun i => M i &&& 7), L, NL, PF, PT, RF, LF)) (h0 : ¬ ig_mq G M L NL r m n fo → ∀ pc PF PT RF LF, post 0 (bl, nI rc, nI nc, pc, B, G, RL, (fun i => M i &&& 7), L, NL, PF, PT, RF, LF)) : wY_matchesRule_17 post (nI r) (nI n) bl (nI rc) (nI nc) pc B G RL (fun i => M i &&& 7) L NL PF PT RF LF := by
  refine ig_ycut hr hm2 hR fun PF' PT' hh => ?_
  have hpl := ig_cpB (G := G) (r := r) hm hm2 hf9
  have ho := ig_cpO hr hm hm2 h9
  have hcl : (nI r).toNatClampNeg = r := nI_clamp (by omega)
  by_cases hs : ∃ j, r * 10 ≤ j ∧ j < r * 10 + m ∧ G j = 9
  · obtain ⟨j, hj1, hj2, hj3⟩ := hs
    have h2 := ig_cp2 (G := G) hj2 hj3 (m + 1) (r * 10) (by omega)
    refine br_f (fun h => ?_) (ig_yr72 hn hpl hh ho hN h1 h0 (ig_mqm ha fun h => h.2 ⟨j, hj1, hj2, hj3⟩))
    have h3 : (ig_cp G (r * 10 + m) (m + 1) (r * 10)).length = 1 := (nI_eq (b := 1) (by omega) (by omega)).mp h
    omega
  · have h2 : ig_cp G (r * 10 + m) (m + 1) (r * 10) = [(r * 10, r * 10 + m)] := ig_cp1 (r * 10) (m + 1) (fun i h3 h4 h5 => hs ⟨i, by omega, h3, h5⟩) (by omega) (by omega)
    have hlen : (ig_cp G (r * 10 + m) (m + 1) (r * 10)).length = 1 := by rw [h2]; rfl
    refine br_t (congrArg nI hlen) ⟨vp_in_nI hr (by omega), ?_⟩
    rw [hcl, ig_k2]
    by_cases hm4 : (M r &&& 2) = 0
    · have h10 : nI r * 10 = nI (r * 10) := pk_mul r 10
      have hcl2 : (nI (r * 10)).toNatClampNeg = r * 10 := nI_clamp (by omega)
      have e4 : nI n - 1 = nI (n - 1) := pk_sub (b := 1) hn1
      have hq := ig_mqo (L := L) (NL := NL) (n := n) ha hm4 hs
      refine br_t hm4 ?_
      rw [h10, hcl2, e4]
      refine ⟨vp_in_nI (by omega) (by omega), ?_⟩
      by_cases hg : G (r * 10) = 10
      · exact br_t hg (h1 (hq.mpr (Or.inl hg)) _ _ _ _ _)
      · have h5 := hh 0 (r * 10) (r * 10 + m) (by rw [h2]; rfl)
        refine br_f hg (ig_ypf (pt := 0) (by omega) h5.1 h5.2 (by omega) (by omega) (by omega) (by omega) hN (fun RF' h => ?_) (fun RF' h => ?_))
        · exact br_f (by decide) (h1 (hq.mpr (Or.inr h)) _ _ _ _ _)
        · refine br_t rfl (h0 (fun q => ?_) _ _ _ _ _)
          rcases hq.mp q with h6 | h6
          · exact hg h6
          · exact h h6
    · exact br_f hm4 (ig_yr72 hn hpl hh ho hN h1 h0 (ig_mqm ha fun h => hm4 h.1))
theorem ig_yrm {post : Int32 → SY → Prop} {r n : Nat} {fo pc : Int32} {PF PT RF LF : Nat → Int32} (hrc : rc ≤ 12) (hru : ig_ru G RL rc) (hr : r < rc) (hn1 : 1 ≤ n) (hn : n ≤ 6) (hN : ∀ j, ∃ m, m ≤ 8 ∧ NL j = nI m)
    (h1 : ig_mr G RL M L NL r n fo → ∀ pc PF PT RF LF, post 1 (bl, nI rc, nI nc, pc, B, G, RL, (fun i => M i &&& 7), L, NL, PF, PT, RF, LF)) (h0 : ¬ ig_mr G RL M L NL r n fo → ∀ pc PF PT RF LF, post 0 (bl, nI rc, nI nc, pc, B, G, RL, (fun i => M i &&& 7), L, NL, PF, PT, RF, LF)) : wpY_matchesRule post (bl, nI rc, nI nc, pc, B, G, RL, (fun i => M i &&& 7), L, NL, PF, PT, RF, LF) (nI r) (nI n) fo := by
  obtain ⟨m, hm, hm2, hR, hf9, h9⟩ := hru r hr
  have e : (RL r).toNatClampNeg = m := by rw [hR]; exact nI_clamp (by omega)
  unfold ig_mr at h1 h0
  rw [e] at h1 h0
  have hr12 : r < 12 := by omega
  refine ⟨vp_in_nI hr12 (by omega), ?_⟩
  have hcl : (nI r).toNatClampNeg = r := nI_clamp (by omega)
  rw [hcl, ig_k4]
  by_cases h4 : (M r &&& 4) = 0
  · exact br_t h4 (ig_yr17 hr12 hm hm2 hR hf9 h9 hn1 hn hN (Or.inl h4) h1 h0)
  · by_cases hf : fo = 0
    · refine br_f h4 (br_t hf (h0 ?_ _ _ _ _ _))
      rintro ⟨h | h, _⟩
      · exact h4 h
      · exact h hf
    · exact br_f h4 (br_f hf (ig_yr17 hr12 hm hm2 hR hf9 h9 hn1 hn hN (Or.inr hf) h1 h0))
theorem ig_y6 {post : Int32 → SY → Prop} {nn : Nat} {fo : Int32} (hrc : rc ≤ 12) (hru : ig_ru G RL rc) (hn1 : 1 ≤ nn) (hn : nn ≤ 6) (hN : ∀ j, ∃ m, m ≤ 8 ∧ NL j = nI m) (hp : ∀ pc PF PT RF LF, post (ig_ls (fun r => ig_mr G RL M L NL r nn fo) rc) (bl, nI rc, nI nc, pc, B, G, RL, (fun i => M i &&& 7), L, NL, PF, PT, RF, LF)) : ∀ d r pc PF PT RF LF, r + d = rc → ∀ f, d < f → wY_lastFor_6 post (nI nn) fo f (ig_ls (fun r => ig_mr G RL M L NL r nn fo) r) (nI r) bl (nI rc) (nI nc) pc B G RL (fun i => M i &&& 7) L NL PF PT RF LF := by
  intro d
  induction d with
  | zero =>
    intro r pc PF PT RF LF hr f hf
    obtain ⟨f, rfl⟩ : ∃ m, f = m + 1 := ⟨f - 1, by omega⟩
    have e : r = rc := by omega
    subst e
    exact br_t (nI_le (by omega) (by omega)) (hp _ _ _ _ _)
  | succ d ih =>
    intro r pc PF PT RF LF hr f hf
    obtain ⟨f, rfl⟩ : ∃ m, f = m + 1 := ⟨f - 1, by omega⟩
    refine br_f (nI_ge (by omega) (by omega)) (ig_yrm hrc hru (by omega) hn1 hn hN (fun h pc PF PT RF LF => ?_) (fun h pc PF PT RF LF => ?_))
    · have h2 := ih (r + 1) pc PF PT RF LF (by omega) f (by omega)
      rw [ig_lst h] at h2
      exact br_f (by decide) (nm_r (nI_1 r) h2)
    · have h2 := ih (r + 1) pc PF PT RF LF (by omega) f (by omega)
      rw [ig_lsf h] at h2
      exact br_t rfl (nm_r (nI_1 r) h2)
theorem ig_ylf {post : Int32 → SY → Prop} {nn : Nat} {fo pc : Int32} {PF PT RF LF : Nat → Int32} (hrc : rc ≤ 12) (hru : ig_ru G RL rc) (hn1 : 1 ≤ nn) (hn : nn ≤ 6) (hN : ∀ j, ∃ m, m ≤ 8 ∧ NL j = nI m) (hp : ∀ pc PF PT RF LF, post (ig_ls (fun r => ig_mr G RL M L NL r nn fo) rc) (bl, nI rc, nI nc, pc, B, G, RL, (fun i => M i &&& 7), L, NL, PF, PT, RF, LF)) : wpY_lastFor post (bl, nI rc, nI nc, pc, B, G, RL, (fun i => M i &&& 7), L, NL, PF, PT, RF, LF) (nI nn) fo :=
  ⟨rc + 1, ig_y6 hrc hru hn1 hn hN hp rc 0 pc PF PT RF LF (by omega) _ (by omega)⟩
theorem ig_y39 {post : Int32 → SY → Prop} {J12 : Int32 → Int32 → Int32 → Int32 → Int32 → (Nat → Int32) → (Nat → Int32) → (Nat → Int32) → (Nat → Int32) → (Nat → Int32) → (Nat → Int32) → (Nat → Int32) → (Nat → Int32) → (Nat → Int32) → (Nat → Int32) → Prop} {x1 fo pc : Int32} {n : Nat} {PF PT RF LF : Nat → Int32} (hrc : rc ≤ 12) (hru : ig_ru G RL rc) (hn1 : 1 ≤ n) (hn : n ≤ 6) (hN : ∀ j, ∃ m, m ≤ 8 ∧ NL j = nI m) (h1 : ig_Q G RL M L NL rc nc fo n → ∀ pc PF PT RF LF, post (nI n) (bl, nI rc, nI nc, pc, B, G, RL, (fun i => M i &&& 7), L, NL, PF, PT, RF, LF)) (h0 : ¬ ig_Q G RL M L NL rc nc fo n → ∀ pc PF PT RF LF, J12 (nI (n + 1)) bl (nI rc) (nI nc) pc B G RL (fun i => M i &&& 7) L NL PF PT RF LF) : wY_cutAt_39 post J12 x1 (nI n) (ig_fo fo nc n) (nI n) bl (nI rc) (nI nc) pc B G RL (fun i => M i &&& 7) L NL PF PT RF LF := by
  refine ig_ylf hrc hru hn1 hn hN fun pc PF PT RF LF => ?_
  show ((ig_la G RL M L NL rc nc fo n < 0 → _) ∧ (¬ ig_la G RL M L NL rc nc fo n < 0 → _))
  rcases ig_lsr (fun r => ig_mr G RL M L NL r n (ig_fo fo nc n)) rc with h5 | ⟨j, hj, ej⟩
  · have h5 : ig_la G RL M L NL rc nc fo n = -5 := h5
    exact br_t (by rw [h5]; decide) (nm_r (nI_1 n) (h0 (fun h => h.1 h5) _ _ _ _ _))
  · have ej : ig_la G RL M L NL rc nc fo n = nI j := ej
    have hne : ¬ ig_la G RL M L NL rc nc fo n = -5 := by
      rw [ej]
      intro h
      have h2 : ¬ nI j < 0 := nI_pos (by omega)
      rw [h] at h2
      exact h2 (by decide)
    refine br_f (by rw [ej]; exact nI_pos (by omega)) ⟨?_, ?_⟩
    · show vp_in (ig_la G RL M L NL rc nc fo n) 12
      rw [ej]
      exact vp_in_nI (by omega) (by omega)
    · show (((M (ig_la G RL M L NL rc nc fo n).toNatClampNeg &&& 7) &&& 1 = 0 → _) ∧ (¬ (M (ig_la G RL M L NL rc nc fo n).toNatClampNeg &&& 7) &&& 1 = 0 → _))
      rw [ig_k1]
      by_cases hm : (M (ig_la G RL M L NL rc nc fo n).toNatClampNeg &&& 1) = 0
      · exact br_t hm (h1 ⟨hne, hm⟩ _ _ _ _ _)
      · exact br_f hm (nm_r (nI_1 n) (h0 (fun h => hm h.2) _ _ _ _ _))
theorem ig_y12 {post : Int32 → SY → Prop} {fo : Int32} (hrc : rc ≤ 12) (hru : ig_ru G RL rc) (hc : nc ≤ 6) (hN : ∀ j, ∃ m, m ≤ 8 ∧ NL j = nI m) : ∀ d n pc PF PT RF LF, n + d = nc + 1 → 1 ≤ n → (∀ pc PF PT RF LF, post (ig_ca (ig_Q G RL M L NL rc nc fo) d n) (bl, nI rc, nI nc, pc, B, G, RL, (fun i => M i &&& 7), L, NL, PF, PT, RF, LF)) → ∀ f, d < f → wY_cutAt_12 post fo f (nI n) bl (nI rc) (nI nc) pc B G RL (fun i => M i &&& 7) L NL PF PT RF LF := by
  intro d
  induction d with
  | zero =>
    intro n pc PF PT RF LF hn h1 hp f hf
    obtain ⟨f, rfl⟩ : ∃ m, f = m + 1 := ⟨f - 1, by omega⟩
    exact br_t (nI_lt (by omega) (by omega)) (hp _ _ _ _ _)
  | succ d ih =>
    intro n pc PF PT RF LF hn h1 hp f hf
    obtain ⟨f, rfl⟩ : ∃ m, f = m + 1 := ⟨f - 1, by omega⟩
    refine br_f (nI_nlt (by omega) (by omega)) ?_
    have key : wY_cutAt_39 post (wY_cutAt_12 post fo f) fo (nI n) (ig_fo fo nc n) (nI n) bl (nI rc) (nI nc) pc B G RL (fun i => M i &&& 7) L NL PF PT RF LF := by
      refine ig_y39 hrc hru h1 (by omega) hN (fun h => ?_) (fun h pc PF PT RF LF => ?_)
      · rw [ig_cat h] at hp
        exact hp
      · rw [ig_caf h] at hp
        exact ih (n + 1) pc PF PT RF LF (by omega) (by omega) hp f (by omega)
    by_cases h0 : fo = 0
    · by_cases hle : nc ≤ n
      · have e : ig_fo fo nc n = 0 := by unfold ig_fo; rw [if_pos h0, if_pos hle]
        rw [e] at key
        exact br_t h0 (br_t (nI_le hle (by omega)) key)
      · have e : ig_fo fo nc n = 1 := by unfold ig_fo; rw [if_pos h0, if_neg hle]
        rw [e] at key
        exact br_t h0 (br_f (nI_ge (by omega) (by omega)) key)
    · have e : ig_fo fo nc n = 1 := by unfold ig_fo; rw [if_neg h0]
      rw [e] at key
      exact br_f h0 key
theorem ig_yip {post : Int32 → Prop} {pc : Int32} {K PF PT RF LF : Nat → Int32} (hc1 : 1 ≤ nc) (hc : nc ≤ 6) (h0 : NL (nc - 1) ≤ 0 → post 0) (h1 : ¬ NL (nc - 1) ≤ 0 → post 1) : wpY_isPath post (bl, nI rc, nI nc, pc, B, G, RL, K, L, NL, PF, PT, RF, LF) := by
  have e : nI nc - 1 = nI (nc - 1) := pk_sub (b := 1) hc1
  have hcl : (nI (nc - 1)).toNatClampNeg = nc - 1 := nI_clamp (by omega)
  unfold wpY_isPath
  dsimp only
  rw [e, hcl]
  exact ⟨vp_in_nI (by omega) (by omega), h0, h1⟩
theorem ig_yca {post : Int32 → SY → Prop} {fo pc : Int32} {PF PT RF LF : Nat → Int32} (hrc : rc ≤ 12) (hru : ig_ru G RL rc) (hc1 : 1 ≤ nc) (hc : nc ≤ 6) (hN : ∀ j, ∃ m, m ≤ 8 ∧ NL j = nI m) (h0 : NL (nc - 1) ≤ 0 → ∀ pc PF PT RF LF, post (-5) (bl, nI rc, nI nc, pc, B, G, RL, (fun i => M i &&& 7), L, NL, PF, PT, RF, LF)) (h1 : ¬ NL (nc - 1) ≤ 0 → ∀ pc PF PT RF LF, post (ig_ca (ig_Q G RL M L NL rc nc fo) nc 1) (bl, nI rc, nI nc, pc, B, G, RL, (fun i => M i &&& 7), L, NL, PF, PT, RF, LF)) : wpY_cutAt post (bl, nI rc, nI nc, pc, B, G, RL, (fun i => M i &&& 7), L, NL, PF, PT, RF, LF) fo := by
  unfold wpY_cutAt
  dsimp only
  refine ig_yip hc1 hc (fun h => br_t rfl (h0 h _ _ _ _ _)) (fun h => br_f (by decide) ⟨nc + 1, ?_⟩)
  exact ig_y12 hrc hru hc hN nc 1 pc PF PT RF LF (by omega) (by omega) (h1 h) _ (by omega)
theorem ig_y4 {post : Int32 → SY → Prop} {fo : Int32} (hrc : rc ≤ 12) (hru : ig_ru G RL rc) (hc1 : 1 ≤ nc) (hc : nc ≤ 6) (hN : ∀ j, ∃ m, m ≤ 8 ∧ NL j = nI m) (hl : ¬ NL (nc - 1) ≤ 0) (hp : ∀ pc PF PT RF LF, post (ig_cn (fun r => ig_mr G RL M L NL r nc fo) rc) (bl, nI rc, nI nc, pc, B, G, RL, (fun i => M i &&& 7), L, NL, PF, PT, RF, LF)) : ∀ d r pc PF PT RF LF, r + d = rc → ∀ f, d < f → wY_matches_4 post fo f (ig_cn (fun r => ig_mr G RL M L NL r nc fo) r) (nI r) bl (nI rc) (nI nc) pc B G RL (fun i => M i &&& 7) L NL PF PT RF LF := by
  intro d
  induction d with
  | zero =>
    intro r pc PF PT RF LF hr f hf
    obtain ⟨f, rfl⟩ : ∃ m, f = m + 1 := ⟨f - 1, by omega⟩
    have e : r = rc := by omega
    subst e
    exact br_t (nI_le (by omega) (by omega)) (hp _ _ _ _ _)
  | succ d ih =>
    intro r pc PF PT RF LF hr f hf
    obtain ⟨f, rfl⟩ : ∃ m, f = m + 1 := ⟨f - 1, by omega⟩
    refine br_f (nI_ge (by omega) (by omega)) (ig_yip hc1 hc (fun h => absurd h hl) (fun _ => br_f (by decide) (ig_yrm hrc hru (by omega) hc1 hc hN (fun h pc PF PT RF LF => ?_) (fun h pc PF PT RF LF => ?_))))
    · have h2 := ih (r + 1) pc PF PT RF LF (by omega) f (by omega)
      rw [ig_cnt h] at h2
      exact br_f (by decide) (nm_e (nm_r (nI_1 r) h2))
    · have h2 := ih (r + 1) pc PF PT RF LF (by omega) f (by omega)
      rw [ig_cnf h] at h2
      exact br_t rfl (nm_r (nI_1 r) h2)
theorem ig_y4n {post : Int32 → SY → Prop} {fo pc : Int32} {K PF PT RF LF : Nat → Int32} (hrc : rc ≤ 12) (hc1 : 1 ≤ nc) (hc : nc ≤ 6) (hl : NL (nc - 1) ≤ 0) (hp : post 0 (bl, nI rc, nI nc, pc, B, G, RL, K, L, NL, PF, PT, RF, LF)) : ∀ d r, r + d = rc → ∀ f, d < f → wY_matches_4 post fo f 0 (nI r) bl (nI rc) (nI nc) pc B G RL K L NL PF PT RF LF := by
  intro d
  induction d with
  | zero =>
    intro r hr f hf
    obtain ⟨f, rfl⟩ : ∃ m, f = m + 1 := ⟨f - 1, by omega⟩
    exact br_t (nI_le (by omega) (by omega)) hp
  | succ d ih =>
    intro r hr f hf
    obtain ⟨f, rfl⟩ : ∃ m, f = m + 1 := ⟨f - 1, by omega⟩
    exact br_f (nI_ge (by omega) (by omega)) (ig_yip hc1 hc (fun h => br_t rfl (nm_r (nI_1 r) (ih (r + 1) (by omega) f (by omega)))) (fun h => absurd hl h))
end
end
section
-- a good buffer, and how a rule is taken over
def ig_bf (B : Nat → Int32) (i : Nat) : Int32 := if i = 0 then 9 else B (i - 1)
def ig_bh (B : Nat → Int32) (len i : Nat) : Int32 := if i + 1 < len then B (i + 1) else 9
def ig_ok (c b h : Int32) : Prop := (c = 9 → ¬ b = 9 ∧ ¬ h = 9) ∧ (c = 10 → b = 9 ∧ h = 9)
def ig_oy (c b h : Int32) : Prop := (c = 9 → ¬ b = 9) ∧ (c = 10 → b = 9 ∧ h = 9)
def ig_gd (B : Nat → Int32) (len : Nat) : Prop := 0 < len ∧ ∀ j, 0 ≤ j → j < len → ig_ok (B j) (ig_bf B j) (ig_bh B len j)
theorem ig_gf {B : Nat → Int32} {len : Nat} (h : ig_gd B len) : ¬ B 0 = 9 := by
  intro h9
  exact ((h.2 0 (Nat.le_refl 0) h.1).1 h9).1 (by unfold ig_bf; rw [if_pos rfl])
theorem ig_gl {B : Nat → Int32} {len : Nat} (h : ig_gd B len) : ¬ B (len - 1) = 9 := by
  intro h9
  have h0 := h.1
  refine ((h.2 (len - 1) (Nat.zero_le _) (by omega)).1 h9).2 ?_
  unfold ig_bh
  rw [if_neg (by omega)]
theorem ig_gy {B : Nat → Int32} {len : Nat} (h0 : 0 < len) (hf : ¬ B 0 = 9) (hl : ¬ B (len - 1) = 9) : ig_gd B len ↔ ∀ j, 0 ≤ j → j < len → ig_oy (B j) (ig_bf B j) (ig_bh B len j) := by
  constructor
  · intro h j h1 h2
    exact ⟨fun e => ((h.2 j h1 h2).1 e).1, (h.2 j h1 h2).2⟩
  · intro h
    refine ⟨h0, fun j h1 h2 => ⟨fun e => ⟨(h j h1 h2).1 e, ?_⟩, (h j h1 h2).2⟩⟩
    unfold ig_bh
    by_cases hj : j + 1 < len
    · rw [if_pos hj]
      intro e2
      have h3 := (h (j + 1) (Nat.zero_le _) hj).1 e2
      unfold ig_bf at h3
      rw [if_neg (by omega), Nat.add_sub_cancel] at h3
      exact h3 e
    · have e1 : j = len - 1 := by omega
      rw [e1] at e
      exact absurd e hl
theorem ig_al1 {i len : Nat} {P : Nat → Prop} (hi : i < len) (h : P i) : (∀ j, i ≤ j → j < len → P j) ↔ (∀ j, i + 1 ≤ j → j < len → P j) := by
  constructor
  · intro h1 j h2 h3
    exact h1 j (by omega) h3
  · intro h1 j h2 h3
    by_cases e : i = j
    · subst e
      exact h
    · exact h1 j (by omega) h3
section
variable {rc nc : Int32} {B G RL M L NL : Nat → Int32}
theorem ig_x77g {post : Int32 → Prop} {J2 : Int32 → Prop} {bl b h : Int32} {i : Nat} (hi : i < 10) (h0 : ¬ (B i = 10 → b = 9 ∧ h = 9) → post 0) (h1 : (B i = 10 → b = 9 ∧ h = 9) → J2 (nI (i + 1))) : wX_isBufferGood_77 post J2 (nI i) b h bl rc nc B G RL M L NL := by
  have hcl : (nI i).toNatClampNeg = i := nI_clamp (by omega)
  refine ⟨vp_in_nI hi (by omega), ?_⟩
  rw [hcl]
  by_cases hc : B i = 10
  · refine br_t hc ?_
    by_cases hb : b = 9
    · by_cases hh : h = 9
      · exact br_t hb (br_t hh (nm_r (nI_1 i) (h1 fun _ => ⟨hb, hh⟩)))
      · exact br_t hb (br_f hh (h0 fun z => hh (z hc).2))
    · exact br_f hb (h0 fun z => hb (z hc).1)
  · exact br_f hc (nm_r (nI_1 i) (h1 fun z => absurd z hc))
theorem ig_x51g {post : Int32 → Prop} {J2 : Int32 → Prop} {bl b h : Int32} {i : Nat} (hi : i < 10) (h0 : ¬ ig_ok (B i) b h → post 0) (h1 : ig_ok (B i) b h → J2 (nI (i + 1))) : wX_isBufferGood_51 post J2 (nI i) b h bl rc nc B G RL M L NL := by
  have hcl : (nI i).toNatClampNeg = i := nI_clamp (by omega)
  refine ⟨vp_in_nI hi (by omega), ?_⟩
  rw [hcl]
  by_cases hc : B i = 9
  · refine br_t hc ?_
    by_cases hb : b = 9
    · exact br_t hb (h0 fun z => (z.1 hc).1 hb)
    · by_cases hh : h = 9
      · exact br_f hb (br_t hh (h0 fun z => (z.1 hc).2 hh))
      · exact br_f hb (br_f hh (ig_x77g hi (fun z => h0 fun y => z y.2) (fun z => h1 ⟨fun _ => ⟨hb, hh⟩, z⟩)))
  · exact br_f hc (ig_x77g hi (fun z => h0 fun y => z y.2) (fun z => h1 ⟨fun y => absurd y hc, z⟩))
theorem ig_x27g {post : Int32 → Prop} {J2 : Int32 → Prop} {b : Int32} {i len : Nat} (hi : i < len) (hl : len ≤ 10) (h0 : ¬ ig_ok (B i) b (ig_bh B len i) → post 0) (h1 : ig_ok (B i) b (ig_bh B len i) → J2 (nI (i + 1))) : wX_isBufferGood_27 post J2 (nI i) b (nI len) rc nc B G RL M L NL := by
  have e : nI len - 1 = nI (len - 1) := pk_sub (b := 1) (by omega)
  unfold wX_isBufferGood_27
  rw [e]
  unfold ig_bh at h0 h1
  by_cases hc : i + 1 < len
  · rw [if_pos hc] at h0 h1
    refine br_f (nI_ge (by omega) (by omega)) ?_
    rw [nI_1 i, nI_clamp (n := i + 1) (by omega)]
    exact ⟨vp_in_nI (by omega) (by omega), ig_x51g (by omega) h0 h1⟩
  · rw [if_neg hc] at h0 h1
    exact br_t (nI_le (by omega) (by omega)) (ig_x51g (by omega) h0 h1)
theorem ig_x2g {post : Int32 → Prop} {P : Prop} {len : Nat} (hl : len ≤ 10) (h1 : P → post 1) (h0 : ¬ P → post 0) : ∀ d i, i + d = len → (P ↔ 0 < len ∧ ∀ j, i ≤ j → j < len → ig_ok (B j) (ig_bf B j) (ig_bh B len j)) → ∀ n, d < n → wX_isBufferGood_2 post (nI len) rc nc B G RL M L NL n (nI i) := by
  intro d
  induction d with
  | zero =>
    intro i hi hP n hd
    obtain ⟨n, rfl⟩ : ∃ m, n = m + 1 := ⟨n - 1, by omega⟩
    refine br_t (nI_le (by omega) (by omega)) ?_
    rcases Nat.eq_zero_or_pos len with hz | hz
    · subst hz
      exact br_t (by decide) (h0 fun p => by have := (hP.mp p).1; omega)
    · exact br_f (nI_nle hz (by omega)) (h1 (hP.mpr ⟨hz, fun j h2 h3 => by omega⟩))
  | succ d ih =>
    intro i hi hP n hd
    obtain ⟨n, rfl⟩ : ∃ m, n = m + 1 := ⟨n - 1, by omega⟩
    refine br_f (nI_ge (by omega) (by omega)) ?_
    have hno : ¬ ig_ok (B i) (ig_bf B i) (ig_bh B len i) → post 0 := fun z => h0 fun p => z ((hP.mp p).2 i (Nat.le_refl i) (by omega))
    have hyes : ig_ok (B i) (ig_bf B i) (ig_bh B len i) → wX_isBufferGood_2 post (nI len) rc nc B G RL M L NL n (nI (i + 1)) := by
      intro z
      rw [ig_al1 (P := fun j => ig_ok (B j) (ig_bf B j) (ig_bh B len j)) (by omega) z] at hP
      exact ih (i + 1) (by omega) hP n (by omega)
    unfold ig_bf at hno hyes
    rcases Nat.eq_zero_or_pos i with hz | hz
    · rw [if_pos hz] at hno hyes
      exact br_t (nI_le (b := 0) (by omega) (by omega)) (ig_x27g (by omega) hl hno hyes)
    · rw [if_neg (by omega)] at hno hyes
      refine br_f (nI_nle hz (by omega)) ?_
      have e : nI i - 1 = nI (i - 1) := pk_sub (b := 1) (by omega)
      rw [e, nI_clamp (n := i - 1) (by omega)]
      exact ⟨vp_in_nI (by omega) (by omega), ig_x27g (by omega) hl hno hyes⟩
theorem ig_xgd {post : Int32 → Prop} {len : Nat} (hl : len ≤ 10) (h1 : ig_gd B len → post 1) (h0 : ¬ ig_gd B len → post 0) : wpX_isBufferGood post (nI len, rc, nc, B, G, RL, M, L, NL) :=
  ⟨len + 1, ig_x2g hl h1 h0 len 0 (by omega) Iff.rfl _ (by omega)⟩
end
section
variable {rc nc pc : Int32} {B G RL K L NL PF PT RF LF : Nat → Int32}
theorem ig_y97g {post : Int32 → Prop} {J : Int32 → Prop} {bl a o b h : Int32} {i : Nat} (hi : i < 10) (ha : a = 0 ↔ ¬ b = 9) (hb : o = 0 ↔ ¬ h = 9) (h0 : ¬ ig_oy (B i) b h → post 0) (h1 : ig_oy (B i) b h → J (nI (i + 1))) : wY_good_97 post J (nI i) a o bl rc nc pc B G RL K L NL PF PT RF LF := by
  have hcl : (nI i).toNatClampNeg = i := nI_clamp (by omega)
  have hin : vp_in (nI i) 10 := vp_in_nI hi (by omega)
  have h115 : (B i = 9 → ¬ b = 9) → wY_good_115 post J (nI i) a o bl rc nc pc B G RL K L NL PF PT RF LF := by
    intro h9
    refine ⟨hin, ?_⟩
    rw [hcl]
    by_cases hc : B i = 10
    · refine br_t hc ?_
      by_cases za : a = 0
      · exact br_t za (h0 fun z => ha.mp za (z.2 hc).1)
      · by_cases zo : o = 0
        · exact br_f za (br_t zo (h0 fun z => hb.mp zo (z.2 hc).2))
        · refine br_f za (br_f zo (nm_r (nI_1 i) (h1 ⟨h9, fun _ => ⟨?_, ?_⟩⟩)))
          · exact Classical.byContradiction fun y => za (ha.mpr y)
          · exact Classical.byContradiction fun y => zo (hb.mpr y)
    · exact br_f hc (nm_r (nI_1 i) (h1 ⟨h9, fun z => absurd z hc⟩))
  refine ⟨hin, ?_⟩
  rw [hcl]
  by_cases hc : B i = 9
  · by_cases za : a = 0
    · exact br_t hc (br_t za (h115 fun _ => ha.mp za))
    · exact br_t hc (br_f za (h0 fun z => za (ha.mpr (z.1 hc))))
  · exact br_f hc (h115 fun z => absurd z hc)
theorem ig_y68g {post : Int32 → Prop} {J : Int32 → Prop} {a b : Int32} {i len : Nat} (hi : i < len) (hl : len ≤ 10) (ha : a = 0 ↔ ¬ b = 9) (h0 : ¬ ig_oy (B i) b (ig_bh B len i) → post 0) (h1 : ig_oy (B i) b (ig_bh B len i) → J (nI (i + 1))) : wY_good_68 post J (nI i) a (nI len) rc nc pc B G RL K L NL PF PT RF LF := by
  have e : nI len - 1 = nI (len - 1) := pk_sub (b := 1) (by omega)
  unfold wY_good_68
  rw [e]
  unfold ig_bh at h0 h1
  by_cases hc : i + 1 < len
  · rw [if_pos hc] at h0 h1
    refine br_f (fun h => ?_) ?_
    · have := (nI_eq (by omega) (by omega)).mp h
      omega
    · rw [nI_1 i, nI_clamp (n := i + 1) (by omega)]
      refine ⟨vp_in_nI (by omega) (by omega), ?_⟩
      by_cases h9 : B (i + 1) = 9
      · exact br_t h9 (ig_y97g (by omega) ha ⟨fun z => absurd z (by decide), fun z => absurd h9 z⟩ h0 h1)
      · exact br_f h9 (ig_y97g (by omega) ha ⟨fun _ => h9, fun _ => rfl⟩ h0 h1)
  · rw [if_neg hc] at h0 h1
    have e1 : i = len - 1 := by omega
    exact br_t (congrArg nI e1) (ig_y97g (by omega) ha ⟨fun z => absurd z (by decide), fun z => absurd rfl z⟩ h0 h1)
theorem ig_y38g {post : Int32 → Prop} {P : Prop} {len : Nat} (hl : len ≤ 10) (h1 : P → post 1) (h0 : ¬ P → post 0) : ∀ d i, i + d = len → (P ↔ ∀ j, i ≤ j → j < len → ig_oy (B j) (ig_bf B j) (ig_bh B len j)) → ∀ n, d < n → wY_good_38 post (nI len) rc nc pc B G RL K L NL PF PT RF LF n (nI i) := by
  intro d
  induction d with
  | zero =>
    intro i hi hP n hd
    obtain ⟨n, rfl⟩ : ∃ m, n = m + 1 := ⟨n - 1, by omega⟩
    exact br_t (nI_le (by omega) (by omega)) (h1 (hP.mpr fun j h2 h3 => by omega))
  | succ d ih =>
    intro i hi hP n hd
    obtain ⟨n, rfl⟩ : ∃ m, n = m + 1 := ⟨n - 1, by omega⟩
    refine br_f (nI_ge (by omega) (by omega)) ?_
    have hno : ¬ ig_oy (B i) (ig_bf B i) (ig_bh B len i) → post 0 := fun z => h0 fun p => z ((hP.mp p) i (Nat.le_refl i) (by omega))
    have hyes : ig_oy (B i) (ig_bf B i) (ig_bh B len i) → wY_good_38 post (nI len) rc nc pc B G RL K L NL PF PT RF LF n (nI (i + 1)) := by
      intro z
      rw [ig_al1 (P := fun j => ig_oy (B j) (ig_bf B j) (ig_bh B len j)) (by omega) z] at hP
      exact ih (i + 1) (by omega) hP n (by omega)
    unfold ig_bf at hno hyes
    rcases Nat.eq_zero_or_pos i with hz | hz
    · rw [if_pos hz] at hno hyes
      exact br_t (congrArg nI hz) (ig_y68g (by omega) hl ⟨fun z => absurd z (by decide), fun z => absurd rfl z⟩ hno hyes)
    · rw [if_neg (by omega)] at hno hyes
      refine br_f (nI_ne0 hz (by omega)) ?_
      have e : nI i - 1 = nI (i - 1) := pk_sub (b := 1) (by omega)
      rw [e, nI_clamp (n := i - 1) (by omega)]
      refine ⟨vp_in_nI (by omega) (by omega), ?_⟩
      by_cases h9 : B (i - 1) = 9
      · exact br_t h9 (ig_y68g (by omega) hl ⟨fun z => absurd z (by decide), fun z => absurd h9 z⟩ hno hyes)
      · exact br_f h9 (ig_y68g (by omega) hl ⟨fun _ => h9, fun _ => rfl⟩ hno hyes)
theorem ig_ygd {post : Int32 → Prop} {len : Nat} (hl : len ≤ 10) (h1 : ig_gd B len → post 1) (h0 : ¬ ig_gd B len → post 0) : wpY_good post (nI len, rc, nc, pc, B, G, RL, K, L, NL, PF, PT, RF, LF) := by
  unfold wpY_good
  dsimp only
  rcases Nat.eq_zero_or_pos len with hz | hz
  · subst hz
    exact br_t rfl (h0 fun h => by have := h.1; omega)
  · refine br_f (nI_ne0 hz (by omega)) ?_
    by_cases hf : B 0 = 9
    · exact br_t hf (h0 fun h => ig_gf h hf)
    · have e : nI len - 1 = nI (len - 1) := pk_sub (b := 1) (by omega)
      refine br_f hf ?_
      rw [e, nI_clamp (n := len - 1) (by omega)]
      refine ⟨vp_in_nI (by omega) (by omega), ?_⟩
      by_cases hb : B (len - 1) = 9
      · exact br_t hb (h0 fun h => ig_gl h hb)
      · exact br_f hb ⟨len + 1, ig_y38g hl h1 h0 len 0 (by omega) (ig_gy hz hf hb) _ (by omega)⟩
end
-- the copy of a buffer behind base
def ig_wr (G B : Nat → Int32) (base : Nat) : Nat → (Nat → Int32)
  | 0 => G
  | i + 1 => upd (ig_wr G B base i) (base + i) (B i)
theorem ig_wl {G B : Nat → Int32} {base j : Nat} (h : j < base) : ∀ n, ig_wr G B base n j = G j := by
  intro n
  induction n with
  | zero => rfl
  | succ n ih => rw [ig_wr, pk_un (by omega)]; exact ih
theorem ig_wi {G B : Nat → Int32} {base i : Nat} : ∀ n, i < n → ig_wr G B base n (base + i) = B i := by
  intro n
  induction n with
  | zero => intro h; omega
  | succ n ih =>
    intro h
    rw [ig_wr]
    by_cases e : i = n
    · subst e
      rw [pk_us]
    · rw [pk_un (by omega)]
      exact ih (by omega)
theorem ig_uk (M : Nat → Int32) (r : Nat) (x : Int32) : upd (fun i => M i &&& 7) r (x &&& 7) = (fun i => upd M r x i &&& 7) := by
  funext j
  unfold upd
  by_cases h : j = r
  · rw [if_pos h, if_pos h]
  · rw [if_neg h, if_neg h]
theorem ig_x43 {post : Int32 → SX → Prop} {mk b0 nc : Int32} {len r : Nat} {B G RL M L NL : Nat → Int32} (hl : len ≤ 10) (hr : r < 12) (hp : post (nI r) (b0, nI (r + 1), nc, B, ig_wr G B (r * 10) len, upd RL r (nI len), upd M r mk, L, NL)) : ∀ d i, i + d = len → ∀ n, d < n → wX_rule_43 post mk (nI len) (nI r) b0 (nI r) nc n (nI i) B (ig_wr G B (r * 10) i) RL M L NL := by
  have hcl : (nI r).toNatClampNeg = r := nI_clamp (by omega)
  have hin : vp_in (nI r) 12 := vp_in_nI hr (by omega)
  intro d
  induction d with
  | zero =>
    intro i hi n hd
    obtain ⟨n, rfl⟩ : ∃ m, n = m + 1 := ⟨n - 1, by omega⟩
    have e : i = len := by omega
    subst e
    exact br_t (nI_le (by omega) (by omega)) ⟨hin, nm_r (e' := upd RL r (nI i)) (by rw [hcl]) ⟨hin, nm_r (e' := upd M r mk) (by rw [hcl]) (nm_r (nI_1 r) hp)⟩⟩
  | succ d ih =>
    intro i hi n hd
    obtain ⟨n, rfl⟩ : ∃ m, n = m + 1 := ⟨n - 1, by omega⟩
    have e : nI r * 10 + nI i = nI (r * 10 + i) := by rw [show (10 : Int32) = nI 10 from rfl, pk_mul, nI_add]
    have hcl2 : (nI r * 10 + nI i).toNatClampNeg = r * 10 + i := by rw [e]; exact nI_clamp (by omega)
    refine br_f (nI_ge (by omega) (by omega)) ⟨vp_in_nI (by omega) (by omega), by rw [e]; exact vp_in_nI (by omega) (by omega), nm_r (e' := ig_wr G B (r * 10) (i + 1)) ?_ (nm_r (nI_1 i) (ih (i + 1) (by omega) n (by omega)))⟩
    rw [hcl2, nI_clamp (by omega)]
    rfl
theorem ig_y37 {post : Int32 → SY → Prop} {mk b0 nc pc : Int32} {len r : Nat} {B G RL M L NL PF PT RF LF : Nat → Int32} (hl : len ≤ 10) (hr : r < 12) (hp : post (nI r) (b0, nI (r + 1), nc, pc, B, ig_wr G B (r * 10) len, upd RL r (nI len), (fun i => upd M r mk i &&& 7), L, NL, PF, PT, RF, LF)) : ∀ d i, i + d = len → ∀ n, d < n → wY_rule_37 post mk (nI len) b0 (nI r) nc pc n (nI i) B (ig_wr G B (r * 10) i) RL (fun i => M i &&& 7) L NL PF PT RF LF := by
  have hcl : (nI r).toNatClampNeg = r := nI_clamp (by omega)
  have hin : vp_in (nI r) 12 := vp_in_nI hr (by omega)
  intro d
  induction d with
  | zero =>
    intro i hi n hd
    obtain ⟨n, rfl⟩ : ∃ m, n = m + 1 := ⟨n - 1, by omega⟩
    have e : i = len := by omega
    subst e
    refine br_t (nI_le (by omega) (by omega)) ⟨hin, nm_r (e' := upd RL r (nI i)) (by rw [hcl]) ⟨hin, nm_r (e' := (fun i => upd M r mk i &&& 7)) (by rw [hcl]; exact ig_uk M r mk) (nm_r (nI_1 r) ?_)⟩⟩
    rw [nI_pred]
    exact hp
  | succ d ih =>
    intro i hi n hd
    obtain ⟨n, rfl⟩ : ∃ m, n = m + 1 := ⟨n - 1, by omega⟩
    have e : nI r * 10 + nI i = nI (r * 10 + i) := by rw [show (10 : Int32) = nI 10 from rfl, pk_mul, nI_add]
    have hcl2 : (nI r * 10 + nI i).toNatClampNeg = r * 10 + i := by rw [e]; exact nI_clamp (by omega)
    refine br_f (nI_ge (by omega) (by omega)) ⟨vp_in_nI (by omega) (by omega), by rw [e]; exact vp_in_nI (by omega) (by omega), nm_r (e' := ig_wr G B (r * 10) (i + 1)) ?_ (nm_r (nI_1 i) (ih (i + 1) (by omega) n (by omega)))⟩
    rw [hcl2, nI_clamp (by omega)]
    rfl
theorem ig_rud {G RL : Nat → Int32} {rc rc' : Nat} (h : ig_ru G RL rc) (hr : rc' ≤ rc) : ig_ru G RL rc' := fun r h2 => h r (by omega)
theorem ig_rua {G RL B : Nat → Int32} {rc len : Nat} (h : ig_ru G RL rc) (hg : ig_gd B len) (hl : len ≤ 10) : ig_ru (ig_wr G B (rc * 10) len) (upd RL rc (nI len)) (rc + 1) := by
  intro r hr
  have hg0 := hg.1
  by_cases e : r = rc
  · subst e
    refine ⟨len, hg0, hl, pk_us, ?_, ?_⟩
    · have e2 := ig_wi (G := G) (B := B) (base := r * 10) (i := 0) len hg0
      rw [Nat.add_zero] at e2
      rw [e2]
      exact ig_gf hg
    · have e2 := ig_wi (G := G) (B := B) (base := r * 10) (i := len - 1) len (by omega)
      have e3 : r * 10 + len - 1 = r * 10 + (len - 1) := by omega
      rw [e3, e2]
      exact ig_gl hg
  · obtain ⟨m, h1, h2, h3, h4, h5⟩ := h r (by omega)
    refine ⟨m, h1, h2, by rw [pk_un e]; exact h3, ?_, ?_⟩
    · rw [ig_wl (by omega)]
      exact h4
    · rw [ig_wl (by omega)]
      exact h5
end
section
/-- both sides hold the same buffer, rules and names; the reference's marks are the component's three low bits; its tables are free -/
def i_Rel (_ : Nat) (u : SX) (v : SY) : Prop := ∃ (bl rc nc : Nat) (B G RL M L NL : Nat → Int32) (pc : Int32) (PF PT RF LF : Nat → Int32), u = (nI bl, nI rc, nI nc, B, G, RL, M, L, NL) ∧ v = (nI bl, nI rc, nI nc, pc, B, G, RL, (fun i => M i &&& 7), L, NL, PF, PT, RF, LF) ∧ bl ≤ 10 ∧ rc ≤ 12 ∧ 1 ≤ nc ∧ nc ≤ 6 ∧ ig_ru G RL rc ∧ (∀ j, ∃ m, m ≤ 8 ∧ NL j = nI m)
theorem ig_R {k bl rc nc : Nat} {B G RL M L NL : Nat → Int32} {pc : Int32} {PF PT RF LF : Nat → Int32} (h1 : bl ≤ 10) (h2 : rc ≤ 12) (h3 : 1 ≤ nc) (h4 : nc ≤ 6) (h5 : ig_ru G RL rc) (h6 : ∀ j, ∃ m, m ≤ 8 ∧ NL j = nI m) : i_Rel k (nI bl, nI rc, nI nc, B, G, RL, M, L, NL) (nI bl, nI rc, nI nc, pc, B, G, RL, (fun i => M i &&& 7), L, NL, PF, PT, RF, LF) :=
  ⟨bl, rc, nc, B, G, RL, M, L, NL, pc, PF, PT, RF, LF, rfl, rfl, h1, h2, h3, h4, h5, h6⟩
theorem ig_nl {NL : Nat → Int32} {j m : Nat} (h : ∀ j, ∃ m, m ≤ 8 ∧ NL j = nI m) (hm : m ≤ 8) : ∀ i, ∃ m', m' ≤ 8 ∧ upd NL j (nI m) i = nI m' := by
  intro i
  by_cases e : i = j
  · subst e
    exact ⟨m, hm, pk_us⟩
  · obtain ⟨m', h1, h2⟩ := h i
    exact ⟨m', h1, by rw [pk_un e]; exact h2⟩
theorem i_up {k : Nat} {u : SX} {v : SY} (h : i_Rel k u v) : i_Rel (k + 2) u v := h
theorem i_vc0 : wpX_init (fun u => wpY_init (fun v => i_Rel 0 u v)) :=
  ⟨0, 0, 1, _, _, _, _, _, _, 0, _, _, _, _, rfl, rfl, by omega, by omega, by omega, by omega, fun r h => by omega, fun j => ⟨0, by omega, rfl⟩⟩
theorem i_vc_pattern {k : Nat} {u : SX} {v : SY} (I : i_Rel k u v) (hk : k + 2 ≤ 1024) (v1 : Int32) : wpX_pattern (fun r u' => wpY_pattern (fun r' v' => r' = r ∧ i_Rel (k + 2) u' v') v v1) u v1 := by
  obtain ⟨bl, rc, nc, B, G, RL, M, L, NL, pc, PF, PT, RF, LF, rfl, rfl, h1, h2, h3, h4, h5, h6⟩ := I
  by_cases ha : v1 < 1
  · exact br_t ha (br_t ha ⟨rfl, ig_R h1 h2 h3 h4 h5 h6⟩)
  · by_cases hb : v1 ≤ 10
    · by_cases hc : bl < 10
      · have hcl : (nI bl).toNatClampNeg = bl := nI_clamp (by omega)
        have hin : vp_in (nI bl) 10 := vp_in_nI hc (by omega)
        have hne : ¬ nI bl = 10 := fun h => by have := (nI_eq (b := 10) (by omega) (by omega)).mp h; omega
        refine br_f ha (br_t hb (br_t (nI_lt (b := 10) hc (by omega)) ⟨hin, nm_r (e' := upd B bl v1) (by rw [hcl]) (nm_r (nI_1 bl) ?_)⟩))
        exact br_f ha (br_t hb (br_f hne ⟨hin, nm_r (e' := upd B bl v1) (by rw [hcl]) (nm_r (nI_1 bl) ⟨rfl, ig_R (by omega) h2 h3 h4 h5 h6⟩)⟩))
      · have e : bl = 10 := by omega
        subst e
        exact br_f ha (br_t hb (br_f (by decide) (br_f ha (br_t hb (br_t rfl ⟨rfl, ig_R h1 h2 h3 h4 h5 h6⟩)))))
    · exact br_f ha (br_f hb (br_f ha (br_f hb ⟨rfl, ig_R h1 h2 h3 h4 h5 h6⟩)))
theorem i_vc_rule {k : Nat} {u : SX} {v : SY} (I : i_Rel k u v) (hk : k + 2 ≤ 1024) (v1 : Int32) : wpX_rule (fun r u' => wpY_rule (fun r' v' => r' = r ∧ i_Rel (k + 2) u' v') v v1) u v1 := by
  obtain ⟨bl, rc, nc, B, G, RL, M, L, NL, pc, PF, PT, RF, LF, rfl, rfl, h1, h2, h3, h4, h5, h6⟩ := I
  unfold wpX_rule wpY_rule
  dsimp only
  refine ig_xgd h1 (fun hg => ?_) (fun hg => ?_)
  · refine br_f (by decide) ?_
    by_cases hr : rc < 12
    · refine br_t (nI_lt (b := 12) hr (by omega)) ⟨bl + 1, ig_x43 h1 hr ?_ bl 0 (by omega) _ (by omega)⟩
      refine ig_ygd h1 (fun _ => ?_) (fun h => absurd hg h)
      have hne : ¬ nI rc = 12 := fun h => by have := (nI_eq (b := 12) (by omega) (by omega)).mp h; omega
      refine br_f (by decide) (br_f hne ⟨bl + 1, ig_y37 h1 hr ?_ bl 0 (by omega) _ (by omega)⟩)
      exact ⟨rfl, ig_R (bl := 0) (by omega) (by omega) h3 h4 (ig_rua h5 hg h1) h6⟩
    · have e : rc = 12 := by omega
      subst e
      refine br_f (by decide) (ig_ygd h1 (fun _ => ?_) (fun h => absurd hg h))
      exact br_f (by decide) (br_t rfl ⟨rfl, ig_R (bl := 0) (by omega) (by omega) h3 h4 h5 h6⟩)
  · refine br_t rfl (ig_ygd h1 (fun h => absurd h hg) (fun _ => ?_))
    exact br_t rfl ⟨rfl, ig_R (bl := 0) (by omega) (by omega) h3 h4 h5 h6⟩
theorem i_vc_dropRule {k : Nat} {u : SX} {v : SY} (I : i_Rel k u v) (hk : k + 2 ≤ 1024) : wpX_dropRule (fun r u' => wpY_dropRule (fun r' v' => r' = r ∧ i_Rel (k + 2) u' v') v) u := by
  obtain ⟨bl, rc, nc, B, G, RL, M, L, NL, pc, PF, PT, RF, LF, rfl, rfl, h1, h2, h3, h4, h5, h6⟩ := I
  rcases Nat.eq_zero_or_pos rc with hz | hz
  · subst hz
    exact br_t rfl (br_t rfl ⟨rfl, ig_R h1 h2 h3 h4 h5 h6⟩)
  · have hne : ¬ nI rc = 0 := nI_ne0 hz (by omega)
    have e : nI rc - 1 = nI (rc - 1) := pk_sub (b := 1) hz
    exact br_f hne (nm_r e (br_f hne (nm_r e ⟨rfl, ig_R h1 (by omega) h3 h4 (ig_rud h5 (by omega)) h6⟩)))
theorem i_vc_path {k : Nat} {u : SX} {v : SY} (I : i_Rel k u v) (hk : k + 2 ≤ 1024) (v1 : Int32) : wpX_path (fun r u' => wpY_path (fun r' v' => r' = r ∧ i_Rel (k + 2) u' v') v v1) u v1 := by
  obtain ⟨bl, rc, nc, B, G, RL, M, L, NL, pc, PF, PT, RF, LF, rfl, rfl, h1, h2, h3, h4, h5, h6⟩ := I
  obtain ⟨m, hm, em⟩ := h6 (nc - 1)
  have e1 : nI nc - 1 = nI (nc - 1) := pk_sub (b := 1) h3
  have hcl : (nI (nc - 1)).toNatClampNeg = nc - 1 := nI_clamp (by omega)
  have hcn : (nI nc).toNatClampNeg = nc := nI_clamp (by omega)
  have hin : vp_in (nI (nc - 1)) 6 := vp_in_nI (by omega) (by omega)
  have eN : NL (nI (nc - 1)).toNatClampNeg = nI m := by rw [hcl]; exact em
  by_cases hlet : ¬ v1 < 1 ∧ ¬ 6 < v1
  · obtain ⟨ha, hb⟩ := hlet
    have hb' : v1 ≤ 6 := Int32.not_lt.mp hb
    have h9 : ¬ v1 = 9 := fun h => by rw [h] at hb; exact hb (by decide)
    have hY : ∀ P, wY_path_19 P v1 (nI bl) (nI rc) (nI nc) pc B G RL (fun i => M i &&& 7) L NL PF PT RF LF → wpY_path P (nI bl, nI rc, nI nc, pc, B, G, RL, (fun i => M i &&& 7), L, NL, PF, PT, RF, LF) v1 := fun P h => br_f ha (br_t hb' h)
    refine br_f ha (br_f hb (br_f (by decide) (nm_r e1 ⟨hin, nm_r eN (br_f (by decide) ?_)⟩)))
    by_cases h8 : m < 8
    · have e2 : nI (nc - 1) * 8 + nI m = nI ((nc - 1) * 8 + m) := by rw [show (8 : Int32) = nI 8 from rfl, pk_mul, nI_add]
      have hcl2 : (nI (nc - 1) * 8 + nI m).toNatClampNeg = (nc - 1) * 8 + m := by rw [e2]; exact nI_clamp (by omega)
      have hin2 : vp_in (nI (nc - 1) * 8 + nI m) 48 := by rw [e2]; exact vp_in_nI (by omega) (by omega)
      have hne : ¬ nI m = 8 := fun h => by have := (nI_eq (b := 8) (by omega) (by omega)).mp h; omega
      refine br_t (nI_lt (b := 8) h8 (by omega)) ⟨hin2, nm_r (e' := upd L ((nc - 1) * 8 + m) v1) (by rw [hcl2]) ⟨hin, nm_r (e' := upd NL (nc - 1) (nI (m + 1))) (by rw [hcl, nI_1]) (hY _ (nm_r e1 (br_f h9 ⟨hin, ?_⟩)))⟩⟩
      rw [eN]
      refine br_f hne ⟨hin, hin2, nm_r (e' := upd L ((nc - 1) * 8 + m) v1) (by rw [hcl2]) ⟨hin, hin, nm_r (e' := upd NL (nc - 1) (nI (m + 1))) (by rw [hcl, nI_1]) ⟨rfl, ig_R h1 h2 h3 h4 h5 (ig_nl h6 (by omega))⟩⟩⟩
    · have e8 : m = 8 := by omega
      subst e8
      refine br_f (by decide) (hY _ (nm_r e1 (br_f h9 ⟨hin, ?_⟩)))
      rw [eN]
      exact br_t rfl ⟨rfl, ig_R h1 h2 h3 h4 h5 h6⟩
  · have hX : ∀ P, wX_path_15 P v1 (nI bl) (nI rc) (nI nc) B G RL M L NL → wpX_path P (nI bl, nI rc, nI nc, B, G, RL, M, L, NL) v1 := by
      intro P h
      by_cases ha : v1 < 1
      · exact br_t ha h
      · exact br_f ha (br_t (Classical.byContradiction fun z => hlet ⟨ha, z⟩) h)
    have hY : ∀ P, wY_path_11 P v1 (nI bl) (nI rc) (nI nc) pc B G RL (fun i => M i &&& 7) L NL PF PT RF LF → wpY_path P (nI bl, nI rc, nI nc, pc, B, G, RL, (fun i => M i &&& 7), L, NL, PF, PT, RF, LF) v1 := by
      intro P h
      by_cases ha : v1 < 1
      · exact br_t ha h
      · exact br_f ha (br_f (fun z => hlet ⟨ha, Int32.not_lt.mpr z⟩) h)
    refine hX _ (br_t rfl ?_)
    by_cases h9 : v1 = 9
    · refine br_t h9 (nm_r e1 ⟨hin, nm_r eN (br_t rfl ?_)⟩)
      by_cases hz : m = 0
      · subst hz
        refine br_t rfl (hY _ (br_t h9 (nm_r e1 (br_t h9 ⟨hin, ?_⟩))))
        rw [eN]
        exact br_t rfl ⟨rfl, ig_R h1 h2 h3 h4 h5 h6⟩
      · have hne : ¬ nI m = 0 := nI_ne0 (by omega) (by omega)
        by_cases hc : nc < 6
        · have hin2 : vp_in (nI nc) 6 := vp_in_nI hc (by omega)
          have hne2 : ¬ nI nc = 6 := fun h => by have := (nI_eq (b := 6) (by omega) (by omega)).mp h; omega
          refine br_f hne (br_t (nI_lt (b := 6) hc (by omega)) ⟨hin2, nm_r (e' := upd NL nc (nI 0)) (by rw [hcn]; rfl) (nm_r (nI_1 nc) (hY _ (br_t h9 (nm_r e1 (br_t h9 ⟨hin, ?_⟩)))))⟩)
          rw [eN]
          exact br_f hne (br_f hne2 ⟨hin2, nm_r (e' := upd NL nc (nI 0)) (by rw [hcn]; rfl) (nm_r (nI_1 nc) ⟨rfl, ig_R h1 h2 (by omega) (by omega) h5 (ig_nl h6 (by omega))⟩)⟩)
        · have e6 : nc = 6 := by omega
          subst e6
          refine br_f hne (br_f (by decide) (hY _ (br_t h9 (nm_r e1 (br_t h9 ⟨hin, ?_⟩)))))
          rw [eN]
          exact br_f hne (br_t rfl ⟨rfl, ig_R h1 h2 h3 h4 h5 h6⟩)
    · exact br_f h9 (hY _ (br_f h9 ⟨rfl, ig_R h1 h2 h3 h4 h5 h6⟩))
theorem i_vc_clearPath {k : Nat} {u : SX} {v : SY} (I : i_Rel k u v) (hk : k + 2 ≤ 1024) : wpX_clearPath (fun u' => wpY_clearPath (fun v' => i_Rel (k + 2) u' v') v) u := by
  obtain ⟨bl, rc, nc, B, G, RL, M, L, NL, pc, PF, PT, RF, LF, rfl, rfl, h1, h2, h3, h4, h5, h6⟩ := I
  exact nm_e (nm_e (ig_R (nc := 1) h1 h2 (by omega) (by omega) h5 (ig_nl (m := 0) h6 (by omega))))
theorem i_vc_ignored {k : Nat} {u : SX} {v : SY} (I : i_Rel k u v) (hk : k + 2 ≤ 1024) (v1 : Int32) : wpX_ignored (fun r => wpY_ignored (fun r' v' => r' = r ∧ i_Rel (k + 2) u v') v (lw_bz v1)) u (lw_bz v1) := by
  obtain ⟨bl, rc, nc, B, G, RL, M, L, NL, pc, PF, PT, RF, LF, rfl, rfl, h1, h2, h3, h4, h5, h6⟩ := I
  unfold wpX_ignored wpY_ignored
  dsimp only
  refine ig_xli h2 h5 h3 h4 h6 (fun hp => br_t rfl ?_) (fun hp => ?_)
  · refine ig_yca h2 h5 h3 h4 h6 (fun _ pc PF PT RF LF => ?_) (fun h => absurd hp h)
    exact br_t rfl ⟨rfl, ig_R h1 h2 h3 h4 h5 h6⟩
  · by_cases hc : ig_ca (ig_Q G RL M L NL rc nc (lw_bz v1)) nc 1 = -5
    · refine br_t hc (ig_yca h2 h5 h3 h4 h6 (fun h => absurd h hp) (fun _ pc PF PT RF LF => ?_))
      exact br_t hc ⟨rfl, ig_R h1 h2 h3 h4 h5 h6⟩
    · refine br_f hc (ig_yca h2 h5 h3 h4 h6 (fun h => absurd h hp) (fun _ pc PF PT RF LF => ?_))
      exact br_f hc ⟨rfl, ig_R h1 h2 h3 h4 h5 h6⟩
theorem i_vc_lastMatch {k : Nat} {u : SX} {v : SY} (I : i_Rel k u v) (hk : k + 2 ≤ 1024) (v1 : Int32) : wpX_lastMatch (fun r => wpY_lastMatch (fun r' v' => r' = r ∧ i_Rel (k + 2) u v') v (lw_bz v1)) u (lw_bz v1) := by
  obtain ⟨bl, rc, nc, B, G, RL, M, L, NL, pc, PF, PT, RF, LF, rfl, rfl, h1, h2, h3, h4, h5, h6⟩ := I
  unfold wpX_lastMatch wpY_lastMatch
  dsimp only
  refine ig_xip h3 h4 (fun hp => br_t rfl ?_) (fun hp => br_f (by decide) (ig_xlm h2 h5 h3 h4 h6 ?_))
  · refine ig_yip h3 h4 (fun _ => br_t rfl ?_) (fun h => absurd hp h)
    exact ⟨rfl, ig_R h1 h2 h3 h4 h5 h6⟩
  · refine ig_yip h3 h4 (fun h => absurd h hp) (fun _ => br_f (by decide) (ig_ylf h2 h5 h3 h4 h6 fun pc PF PT RF LF => ?_))
    exact ⟨rfl, ig_R h1 h2 h3 h4 h5 h6⟩
theorem i_vc_matches {k : Nat} {u : SX} {v : SY} (I : i_Rel k u v) (hk : k + 2 ≤ 1024) (v1 : Int32) : wpX_matches (fun r => wpY_matches (fun r' v' => r' = r ∧ i_Rel (k + 2) u v') v (lw_bz v1)) u (lw_bz v1) := by
  obtain ⟨bl, rc, nc, B, G, RL, M, L, NL, pc, PF, PT, RF, LF, rfl, rfl, h1, h2, h3, h4, h5, h6⟩ := I
  unfold wpX_matches wpY_matches
  dsimp only
  refine ig_xip h3 h4 (fun hp => br_t rfl ⟨rc + 1, ?_⟩) (fun hp => br_f (by decide) ⟨rc + 1, ig_x13 h2 h5 h3 h4 h6 ⟨rc + 1, ?_⟩ rc 0 (by omega) _ (by omega)⟩)
  · exact ig_y4n h2 h3 h4 hp ⟨rfl, ig_R h1 h2 h3 h4 h5 h6⟩ rc 0 (by omega) _ (by omega)
  · exact ig_y4 h2 h5 h3 h4 h6 hp (fun pc PF PT RF LF => ⟨rfl, ig_R h1 h2 h3 h4 h5 h6⟩) rc 0 pc PF PT RF LF (by omega) _ (by omega)
theorem i_vc_cutAt {k : Nat} {u : SX} {v : SY} (I : i_Rel k u v) (hk : k + 2 ≤ 1024) (v1 : Int32) : wpX_cutAt (fun r => wpY_cutAt (fun r' v' => r' = r ∧ i_Rel (k + 2) u v') v (lw_bz v1)) u (lw_bz v1) := by
  obtain ⟨bl, rc, nc, B, G, RL, M, L, NL, pc, PF, PT, RF, LF, rfl, rfl, h1, h2, h3, h4, h5, h6⟩ := I
  unfold wpX_cutAt
  dsimp only
  refine ig_xli h2 h5 h3 h4 h6 (fun hp => ?_) (fun hp => ?_)
  · exact ig_yca h2 h5 h3 h4 h6 (fun _ pc PF PT RF LF => ⟨rfl, ig_R h1 h2 h3 h4 h5 h6⟩) (fun h => absurd hp h)
  · exact ig_yca h2 h5 h3 h4 h6 (fun h => absurd h hp) (fun _ pc PF PT RF LF => ⟨rfl, ig_R h1 h2 h3 h4 h5 h6⟩)
theorem i_vc_rules {k : Nat} {u : SX} {v : SY} (I : i_Rel k u v) (hk : k + 2 ≤ 1024) : wpX_rules (fun r => wpY_rules (fun r' => r' = r ∧ i_Rel (k + 2) u v) v) u := by
  obtain ⟨bl, rc, nc, B, G, RL, M, L, NL, pc, PF, PT, RF, LF, rfl, rfl, h1, h2, h3, h4, h5, h6⟩ := I
  exact ⟨rfl, ig_R h1 h2 h3 h4 h5 h6⟩
end
