-- a good buffer, and how a rule is taken over
def ig_bf (B : Nat → Int32) (i : Nat) : Int32 := if i = 0 then 9 else B (i - 1)
def ig_bh (B : Nat → Int32) (len i : Nat) : Int32 := if i + 1 < len then B (i + 1) else 9
def ig_ok (c b h : Int32) : Prop := (c = 9 → ¬ b = 9 ∧ ¬ h = 9) ∧ (c = 10 → b = 9 ∧ h = 9)
def ig_oy (c b h : Int32) : Prop := (c = 9 → ¬ b = 9) ∧ (c = 10 → b = 9 ∧ h = 9)
def ig_gd (B : Nat → Int32) (len : Nat) : Prop := 0 < len ∧ ∀ j, 0 ≤ j → j < len → ig_ok (B j) (ig_bf B j) (ig_bh B len j)
theorem ig_gf {B : Nat → Int32} {len : Nat} (h : ig_gd B len) : ¬ B 0 = 9 := by
  intro h9
  exact ((h.2 0 (Nat.le_refl 0) h.1).1 h9).1 (by unfold ig_bf; rw [if_pos rfl])
theorem ig_gl {B : Nat → Int32} {len : Nat} (h : ig_gd B len) : ¬ B (len - 1) = 9 := by
  intro h9
  have h0 := h.1
  refine ((h.2 (len - 1) (Nat.zero_le _) (by omega)).1 h9).2 ?_
  unfold ig_bh
  rw [if_neg (by omega)]
theorem ig_gy {B : Nat → Int32} {len : Nat} (h0 : 0 < len) (hf : ¬ B 0 = 9) (hl : ¬ B (len - 1) = 9) : ig_gd B len ↔ ∀ j, 0 ≤ j → j < len → ig_oy (B j) (ig_bf B j) (ig_bh B len j) := by
  constructor
  · intro h j h1 h2
    exact ⟨fun e => ((h.2 j h1 h2).1 e).1, (h.2 j h1 h2).2⟩
  · intro h
    refine ⟨h0, fun j h1 h2 => ⟨fun e => ⟨(h j h1 h2).1 e, ?_⟩, (h j h1 h2).2⟩⟩
    unfold ig_bh
    by_cases hj : j + 1 < len
    · rw [if_pos hj]
      intro e2
      have h3 := (h (j + 1) (Nat.zero_le _) hj).1 e2
      unfold ig_bf at h3
      rw [if_neg (by omega), Nat.add_sub_cancel] at h3
      exact h3 e
    · have e1 : j = len - 1 := by omega
      rw [e1] at e
      exact absurd e hl
theorem ig_al1 {i len : Nat} {P : Nat → Prop} (hi : i < len) (h : P i) : (∀ j, i ≤ j → j < len → P j) ↔ (∀ j, i + 1 ≤ j → j < len → P j) := by
  constructor
  · intro h1 j h2 h3
    exact h1 j (by omega) h3
  · intro h1 j h2 h3
    by_cases e : i = j
    · subst e
      exact h
    · exact h1 j (by omega) h3
section
variable {rc nc : Int32} {B G RL M L NL : Nat → Int32}
theorem ig_x77g {post : Int32 → Prop} {J2 : Int32 → Prop} {bl b h : Int32} {i : Nat} (hi : i < 10) (h0 : ¬ (B i = 10 → b = 9 ∧ h = 9) → post 0) (h1 : (B i = 10 → b = 9 ∧ h = 9) → J2 (nI (i + 1))) : wX_isBufferGood_77 post J2 (nI i) b h bl rc nc B G RL M L NL := by
  have hcl : (nI i).toNatClampNeg = i := nI_clamp (by omega)
  refine ⟨vp_in_nI hi (by omega), ?_⟩
  rw [hcl]
  by_cases hc : B i = 10
  · refine br_t hc ?_
    by_cases hb : b = 9
    · by_cases hh : h = 9
      · exact br_t hb (br_t hh (nm_r (nI_1 i) (h1 fun _ => ⟨hb, hh⟩)))
      · exact br_t hb (br_f hh (h0 fun z => hh (z hc).2))
    · exact br_f hb (h0 fun z => hb (z hc).1)
  · exact br_f hc (nm_r (nI_1 i) (h1 fun z => absurd z hc))
theorem ig_x51g {post : Int32 → Prop} {J2 : Int32 → Prop} {bl b h : Int32} {i : Nat} (hi : i < 10) (h0 : ¬ ig_ok (B i) b h → post 0) (h1 : ig_ok (B i) b h → J2 (nI (i + 1))) : wX_isBufferGood_51 post J2 (nI i) b h bl rc nc B G RL M L NL := by
  have hcl : (nI i).toNatClampNeg = i := nI_clamp (by omega)
  refine ⟨vp_in_nI hi (by omega), ?_⟩
  rw [hcl]
  by_cases hc : B i = 9
  · refine br_t hc ?_
    by_cases hb : b = 9
    · exact br_t hb (h0 fun z => (z.1 hc).1 hb)
    · by_cases hh : h = 9
      · exact br_f hb (br_t hh (h0 fun z => (z.1 hc).2 hh))
      · exact br_f hb (br_f hh (ig_x77g hi (fun z => h0 fun y => z y.2) (fun z => h1 ⟨fun _ => ⟨hb, hh⟩, z⟩)))
  · exact br_f hc (ig_x77g hi (fun z => h0 fun y => z y.2) (fun z => h1 ⟨fun y => absurd y hc, z⟩))
theorem ig_x27g {post : Int32 → Prop} {J2 : Int32 → Prop} {b : Int32} {i len : Nat} (hi : i < len) (hl : len ≤ 10) (h0 : ¬ ig_ok (B i) b (ig_bh B len i) → post 0) (h1 : ig_ok (B i) b (ig_bh B len i) → J2 (nI (i + 1))) : wX_isBufferGood_27 post J2 (nI i) b (nI len) rc nc B G RL M L NL := by
  have e : nI len - 1 = nI (len - 1) := pk_sub (b := 1) (by omega)
  unfold wX_isBufferGood_27
  rw [e]
  unfold ig_bh at h0 h1
  by_cases hc : i + 1 < len
  · rw [if_pos hc] at h0 h1
    refine br_f (nI_ge (by omega) (by omega)) ?_
    rw [nI_1 i, nI_clamp (n := i + 1) (by omega)]
    exact ⟨vp_in_nI (by omega) (by omega), ig_x51g (by omega) h0 h1⟩
  · rw [if_neg hc] at h0 h1
    exact br_t (nI_le (by omega) (by omega)) (ig_x51g (by omega) h0 h1)
theorem ig_x2g {post : Int32 → Prop} {P : Prop} {len : Nat} (hl : len ≤ 10) (h1 : P → post 1) (h0 : ¬ P → post 0) : ∀ d i, i + d = len → (P ↔ 0 < len ∧ ∀ j, i ≤ j → j < len → ig_ok (B j) (ig_bf B j) (ig_bh B len j)) → ∀ n, d < n → wX_isBufferGood_2 post (nI len) rc nc B G RL M L NL n (nI i) := by
  intro d
  induction d with
  | zero =>
    intro i hi hP n hd
    obtain ⟨n, rfl⟩ : ∃ m, n = m + 1 := ⟨n - 1, by omega⟩
    refine br_t (nI_le (by omega) (by omega)) ?_
    rcases Nat.eq_zero_or_pos len with hz | hz
    · subst hz
      exact br_t (by decide) (h0 fun p => by have := (hP.mp p).1; omega)
    · exact br_f (nI_nle hz (by omega)) (h1 (hP.mpr ⟨hz, fun j h2 h3 => by omega⟩))
  | succ d ih =>
    intro i hi hP n hd
    obtain ⟨n, rfl⟩ : ∃ m, n = m + 1 := ⟨n - 1, by omega⟩
    refine br_f (nI_ge (by omega) (by omega)) ?_
    have hno : ¬ ig_ok (B i) (ig_bf B i) (ig_bh B len i) → post 0 := fun z => h0 fun p => z ((hP.mp p).2 i (Nat.le_refl i) (by omega))
    have hyes : ig_ok (B i) (ig_bf B i) (ig_bh B len i) → wX_isBufferGood_2 post (nI len) rc nc B G RL M L NL n (nI (i + 1)) := by
      intro z
      rw [ig_al1 (P := fun j => ig_ok (B j) (ig_bf B j) (ig_bh B len j)) (by omega) z] at hP
      exact ih (i + 1) (by omega) hP n (by omega)
    unfold ig_bf at hno hyes
    rcases Nat.eq_zero_or_pos i with hz | hz
    · rw [if_pos hz] at hno hyes
      exact br_t (nI_le (b := 0) (by omega) (by omega)) (ig_x27g (by omega) hl hno hyes)
    · rw [if_neg (by omega)] at hno hyes
      refine br_f (nI_nle hz (by omega)) ?_
      have e : nI i - 1 = nI (i - 1) := pk_sub (b := 1) (by omega)
      rw [e, nI_clamp (n := i - 1) (by omega)]
      exact ⟨vp_in_nI (by omega) (by omega), ig_x27g (by omega) hl hno hyes⟩
theorem ig_xgd {post : Int32 → Prop} {len : Nat} (hl : len ≤ 10) (h1 : ig_gd B len → post 1) (h0 : ¬ ig_gd B len → post 0) : wpX_isBufferGood post (nI len, rc, nc, B, G, RL, M, L, NL) :=
  ⟨len + 1, ig_x2g hl h1 h0 len 0 (by omega) Iff.rfl _ (by omega)⟩
end
section
variable {rc nc pc : Int32} {B G RL K L NL PF PT RF LF : Nat → Int32}
theorem ig_y97g {post : Int32 → Prop} {J : Int32 → Prop} {bl a o b h : Int32} {i : Nat} (hi : i < 10) (ha : a = 0 ↔ ¬ b = 9) (hb : o = 0 ↔ ¬ h = 9) (h0 : ¬ ig_oy (B i) b h → post 0) (h1 : ig_oy (B i) b h → J (nI (i + 1))) : wY_good_97 post J (nI i) a o bl rc nc pc B G RL K L NL PF PT RF LF := by
  have hcl : (nI i).toNatClampNeg = i := nI_clamp (by omega)
  have hin : vp_in (nI i) 10 := vp_in_nI hi (by omega)
  have h115 : (B i = 9 → ¬ b = 9) → wY_good_115 post J (nI i) a o bl rc nc pc B G RL K L NL PF PT RF LF := by
    intro h9
    refine ⟨hin, ?_⟩
    rw [hcl]
    by_cases hc : B i = 10
    · refine br_t hc ?_
      by_cases za : a = 0
      · exact br_t za (h0 fun z => ha.mp za (z.2 hc).1)
      · by_cases zo : o = 0
        · exact br_f za (br_t zo (h0 fun z => hb.mp zo (z.2 hc).2))
        · refine br_f za (br_f zo (nm_r (nI_1 i) (h1 ⟨h9, fun _ => ⟨?_, ?_⟩⟩)))
          · exact Classical.byContradiction fun y => za (ha.mpr y)
          · exact Classical.byContradiction fun y => zo (hb.mpr y)
    · exact br_f hc (nm_r (nI_1 i) (h1 ⟨h9, fun z => absurd z hc⟩))
  refine ⟨hin, ?_⟩
  rw [hcl]
  by_cases hc : B i = 9
  · by_cases za : a = 0
    · exact br_t hc (br_t za (h115 fun _ => ha.mp za))
    · exact br_t hc (br_f za (h0 fun z => za (ha.mpr (z.1 hc))))
  · exact br_f hc (h115 fun z => absurd z hc)
theorem ig_y68g {post : Int32 → Prop} {J : Int32 → Prop} {a b : Int32} {i len : Nat} (hi : i < len) (hl : len ≤ 10) (ha : a = 0 ↔ ¬ b = 9) (h0 : ¬ ig_oy (B i) b (ig_bh B len i) → post 0) (h1 : ig_oy (B i) b (ig_bh B len i) → J (nI (i + 1))) : wY_good_68 post J (nI i) a (nI len) rc nc pc B G RL K L NL PF PT RF LF := by
  have e : nI len - 1 = nI (len - 1) := pk_sub (b := 1) (by omega)
  unfold wY_good_68
  rw [e]
  unfold ig_bh at h0 h1
  by_cases hc : i + 1 < len
  · rw [if_pos hc] at h0 h1
    refine br_f (fun h => ?_) ?_
    · have := (nI_eq (by omega) (by omega)).mp h
      omega
    · rw [nI_1 i, nI_clamp (n := i + 1) (by omega)]
      refine ⟨vp_in_nI (by omega) (by omega), ?_⟩
      by_cases h9 : B (i + 1) = 9
      · exact br_t h9 (ig_y97g (by omega) ha ⟨fun z => absurd z (by decide), fun z => absurd h9 z⟩ h0 h1)
      · exact br_f h9 (ig_y97g (by omega) ha ⟨fun _ => h9, fun _ => rfl⟩ h0 h1)
  · rw [if_neg hc] at h0 h1
    have e1 : i = len - 1 := by omega
    exact br_t (congrArg nI e1) (ig_y97g (by omega) ha ⟨fun z => absurd z (by decide), fun z => absurd rfl z⟩ h0 h1)
theorem ig_y38g {post : Int32 → Prop} {P : Prop} {len : Nat} (hl : len ≤ 10) (h1 : P → post 1) (h0 : ¬ P → post 0) : ∀ d i, i + d = len → (P ↔ ∀ j, i ≤ j → j < len → ig_oy (B j) (ig_bf B j) (ig_bh B len j)) → ∀ n, d < n → wY_good_38 post (nI len) rc nc pc B G RL K L NL PF PT RF LF n (nI i) := by
  intro d
  induction d with
  | zero =>
    intro i hi hP n hd
    obtain ⟨n, rfl⟩ : ∃ m, n = m + 1 := ⟨n - 1, by omega⟩
    exact br_t (nI_le (by omega) (by omega)) (h1 (hP.mpr fun j h2 h3 => by omega))
  | succ d ih =>
    intro i hi hP n hd
    obtain ⟨n, rfl⟩ : ∃ m, n = m + 1 := ⟨n - 1, by omega⟩
    refine br_f (nI_ge (by omega) (by omega)) ?_
    have hno : ¬ ig_oy (B i) (ig_bf B i) (ig_bh B len i) → post 0 := fun z => h0 fun p => z ((hP.mp p) i (Nat.le_refl i) (by omega))
    have hyes : ig_oy (B i) (ig_bf B i) (ig_bh B len i) → wY_good_38 post (nI len) rc nc pc B G RL K L NL PF PT RF LF n (nI (i + 1)) := by
      intro z
      rw [ig_al1 (P := fun j => ig_oy (B j) (ig_bf B j) (ig_bh B len j)) (by omega) z] at hP
      exact ih (i + 1) (by omega) hP n (by omega)
    unfold ig_bf at hno hyes
    rcases Nat.eq_zero_or_pos i with hz | hz
    · rw [if_pos hz] at hno hyes
      exact br_t (congrArg nI hz) (ig_y68g (by omega) hl ⟨fun z => absurd z (by decide), fun z => absurd rfl z⟩ hno hyes)
    · rw [if_neg (by omega)] at hno hyes
      refine br_f (nI_ne0 hz (by omega)) ?_
      have e : nI i - 1 = nI (i - 1) := pk_sub (b := 1) (by omega)
      rw [e, nI_clamp (n := i - 1) (by omega)]
      refine ⟨vp_in_nI (by omega) (by omega), ?_⟩
      by_cases h9 : B (i - 1) = 9
      · exact br_t h9 (ig_y68g (by omega) hl ⟨fun z => absurd z (by decide), fun z => absurd h9 z⟩ hno hyes)
      · exact br_f h9 (ig_y68g (by omega) hl ⟨fun _ => h9, fun _ => rfl⟩ hno hyes)
theorem ig_ygd {post : Int32 → Prop} {len : Nat} (hl : len ≤ 10) (h1 : ig_gd B len → post 1) (h0 : ¬ ig_gd B len → post 0) : wpY_good post (nI len, rc, nc, pc, B, G, RL, K, L, NL, PF, PT, RF, LF) := by
  unfold wpY_good
  dsimp only
  rcases Nat.eq_zero_or_pos len with hz | hz
  · subst hz
    exact br_t rfl (h0 fun h => by have := h.1; omega)
  · refine br_f (nI_ne0 hz (by omega)) ?_
    by_cases hf : B 0 = 9
    · exact br_t hf (h0 fun h => ig_gf h hf)
    · have e : nI len - 1 = nI (len - 1) := pk_sub (b := 1) (by omega)
      refine br_f hf ?_
      rw [e, nI_clamp (n := len - 1) (by omega)]
      refine ⟨vp_in_nI (by omega) (by omega), ?_⟩
      by_cases hb : B (len - 1) = 9
      · exact br_t hb (h0 fun h => ig_gl h hb)
      · exact br_f hb ⟨len + 1, ig_y38g hl h1 h0 len 0 (by omega) (ig_gy hz hf hb) _ (by omega)⟩
end
-- the copy of a buffer behind base
def ig_wr (G B : Nat → Int32) (base : Nat) : Nat → (Nat → Int32)
  | 0 => G
  | i + 1 => upd (ig_wr G B base i) (base + i) (B i)
theorem ig_wl {G B : Nat → Int32} {base j : Nat} (h : j < base) : ∀ n, ig_wr G B base n j = G j := by
  intro n
  induction n with
  | zero => rfl
  | succ n ih => rw [ig_wr, pk_un (by omega)]; exact ih
theorem ig_wi {G B : Nat → Int32} {base i : Nat} : ∀ n, i < n → ig_wr G B base n (base + i) = B i := by
  intro n
  induction n with
  | zero => intro h; omega
  | succ n ih =>
    intro h
    rw [ig_wr]
    by_cases e : i = n
    · subst e
      rw [pk_us]
    · rw [pk_un (by omega)]
      exact ih (by omega)
theorem ig_uk (M : Nat → Int32) (r : Nat) (x : Int32) : upd (fun i => M i &&& 7) r (x &&& 7) = (fun i => upd M r x i &&& 7) := by
  funext j
  unfold upd
  by_cases h : j = r
  · rw [if_pos h, if_pos h]
  · rw [if_neg h, if_neg h]
theorem ig_x43 {post : Int32 → SX → Prop} {mk b0 nc : Int32} {len r : Nat} {B G RL M L NL : Nat → Int32} (hl : len ≤ 10) (hr : r < 12) (hp : post (nI r) (b0, nI (r + 1), nc, B, ig_wr G B (r * 10) len, upd RL r (nI len), upd M r mk, L, NL)) : ∀ d i, i + d = len → ∀ n, d < n → wX_rule_43 post mk (nI len) (nI r) b0 (nI r) nc n (nI i) B (ig_wr G B (r * 10) i) RL M L NL := by
  have hcl : (nI r).toNatClampNeg = r := nI_clamp (by omega)
  have hin : vp_in (nI r) 12 := vp_in_nI hr (by omega)
  intro d
  induction d with
  | zero =>
    intro i hi n hd
    obtain ⟨n, rfl⟩ : ∃ m, n = m + 1 := ⟨n - 1, by omega⟩
    have e : i = len := by omega
    subst e
    exact br_t (nI_le (by omega) (by omega)) ⟨hin, nm_r (e' := upd RL r (nI i)) (by rw [hcl]) ⟨hin, nm_r (e' := upd M r mk) (by rw [hcl]) (nm_r (nI_1 r) hp)⟩⟩
  | succ d ih =>
    intro i hi n hd
    obtain ⟨n, rfl⟩ : ∃ m, n = m + 1 := ⟨n - 1, by omega⟩
    have e : nI r * 10 + nI i = nI (r * 10 + i) := by rw [show (10 : Int32) = nI 10 from rfl, pk_mul, nI_add]
    have hcl2 : (nI r * 10 + nI i).toNatClampNeg = r * 10 + i := by rw [e]; exact nI_clamp (by omega)
    refine br_f (nI_ge (by omega) (by omega)) ⟨vp_in_nI (by omega) (by omega), by rw [e]; exact vp_in_nI (by omega) (by omega), nm_r (e' := ig_wr G B (r * 10) (i + 1)) ?_ (nm_r (nI_1 i) (ih (i + 1) (by omega) n (by omega)))⟩
    rw [hcl2, nI_clamp (by omega)]
    rfl
theorem ig_y37 {post : Int32 → SY → Prop} {mk b0 nc pc : Int32} {len r : Nat} {B G RL M L NL PF PT RF LF : Nat → Int32} (hl : len ≤ 10) (hr : r < 12) (hp : post (nI r) (b0, nI (r + 1), nc, pc, B, ig_wr G B (r * 10) len, upd RL r (nI len), (fun i => upd M r mk i &&& 7), L, NL, PF, PT, RF, LF)) : ∀ d i, i + d = len → ∀ n, d < n → wY_rule_37 post mk (nI len) b0 (nI r) nc pc n (nI i) B (ig_wr G B (r * 10) i) RL (fun i => M i &&& 7) L NL PF PT RF LF := by
  have hcl : (nI r).toNatClampNeg = r := nI_clamp (by omega)
  have hin : vp_in (nI r) 12 := vp_in_nI hr (by omega)
  intro d
  induction d with
  | zero =>
    intro i hi n hd
    obtain ⟨n, rfl⟩ : ∃ m, n = m + 1 := ⟨n - 1, by omega⟩
    have e : i = len := by omega
    subst e
    refine br_t (nI_le (by omega) (by omega)) ⟨hin, nm_r (e' := upd RL r (nI i)) (by rw [hcl]) ⟨hin, nm_r (e' := (fun i => upd M r mk i &&& 7)) (by rw [hcl]; exact ig_uk M r mk) (nm_r (nI_1 r) ?_)⟩⟩
    rw [nI_pred]
    exact hp
  | succ d ih =>
    intro i hi n hd
    obtain ⟨n, rfl⟩ : ∃ m, n = m + 1 := ⟨n - 1, by omega⟩
    have e : nI r * 10 + nI i = nI (r * 10 + i) := by rw [show (10 : Int32) = nI 10 from rfl, pk_mul, nI_add]
    have hcl2 : (nI r * 10 + nI i).toNatClampNeg = r * 10 + i := by rw [e]; exact nI_clamp (by omega)
    refine br_f (nI_ge (by omega) (by omega)) ⟨vp_in_nI (by omega) (by omega), by rw [e]; exact vp_in_nI (by omega) (by omega), nm_r (e' := ig_wr G B (r * 10) (i + 1)) ?_ (nm_r (nI_1 i) (ih (i + 1) (by omega) n (by omega)))⟩
    rw [hcl2, nI_clamp (by omega)]
    rfl
theorem ig_rud {G RL : Nat → Int32} {rc rc' : Nat} (h : ig_ru G RL rc) (hr : rc' ≤ rc) : ig_ru G RL rc' := fun r h2 => h r (by omega)
theorem ig_rua {G RL B : Nat → Int32} {rc len : Nat} (h : ig_ru G RL rc) (hg : ig_gd B len) (hl : len ≤ 10) : ig_ru (ig_wr G B (rc * 10) len) (upd RL rc (nI len)) (rc + 1) := by
  intro r hr
  have hg0 := hg.1
  by_cases e : r = rc
  · subst e
    refine ⟨len, hg0, hl, pk_us, ?_, ?_⟩
    · have e2 := ig_wi (G := G) (B := B) (base := r * 10) (i := 0) len hg0
      rw [Nat.add_zero] at e2
      rw [e2]
      exact ig_gf hg
    · have e2 := ig_wi (G := G) (B := B) (base := r * 10) (i := len - 1) len (by omega)
      have e3 : r * 10 + len - 1 = r * 10 + (len - 1) := by omega
      rw [e3, e2]
      exact ig_gl hg
  · obtain ⟨m, h1, h2, h3, h4, h5⟩ := h r (by omega)
    refine ⟨m, h1, h2, by rw [pk_un e]; exact h3, ?_, ?_⟩
    · rw [ig_wl (by omega)]
      exact h4
    · rw [ig_wl (by omega)]
      exact h5
