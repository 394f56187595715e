-- the picture of a rule, of the last that matches, of the count, of the least number of names
def ig_mq (G M L NL : Nat → Int32) (r m n : Nat) (fo : Int32) : Prop :=
  ((M r &&& 4) = 0 ∨ ¬ fo = 0) ∧ ((((M r &&& 2) = 0 ∧ ¬ ∃ j, r * 10 ≤ j ∧ j < r * 10 + m ∧ G j = 9) ∧ (G (r * 10) = 10 ∨ ig_pf G L NL (r * 10) (r * 10 + m) (n - 1))) ∨ (¬ ((M r &&& 2) = 0 ∧ ¬ ∃ j, r * 10 ≤ j ∧ j < r * 10 + m ∧ G j = 9) ∧ ig_al G L NL n (ig_cp G (r * 10 + m) (m + 1) (r * 10)) 0))
def ig_mr (G RL M L NL : Nat → Int32) (r n : Nat) (fo : Int32) : Prop := ig_mq G M L NL r (RL r).toNatClampNeg n fo
def ig_ru (G RL : Nat → Int32) (rc : Nat) : Prop := ∀ r, r < rc → ∃ m, 1 ≤ m ∧ m ≤ 10 ∧ RL r = nI m ∧ ¬ G (r * 10) = 9 ∧ ¬ G (r * 10 + m - 1) = 9
theorem ig_mqo {G M L NL : Nat → Int32} {r m n : Nat} {fo : Int32} (ha : (M r &&& 4) = 0 ∨ ¬ fo = 0) (h2 : (M r &&& 2) = 0) (h : ¬ ∃ j, r * 10 ≤ j ∧ j < r * 10 + m ∧ G j = 9) : ig_mq G M L NL r m n fo ↔ (G (r * 10) = 10 ∨ ig_pf G L NL (r * 10) (r * 10 + m) (n - 1)) := by
  constructor
  · rintro ⟨_, ⟨_, h3⟩ | ⟨h3, _⟩⟩
    · exact h3
    · exact absurd ⟨h2, h⟩ h3
  · intro h3
    exact ⟨ha, Or.inl ⟨⟨h2, h⟩, h3⟩⟩
theorem ig_mqm {G M L NL : Nat → Int32} {r m n : Nat} {fo : Int32} (ha : (M r &&& 4) = 0 ∨ ¬ fo = 0) (h : ¬ ((M r &&& 2) = 0 ∧ ¬ ∃ j, r * 10 ≤ j ∧ j < r * 10 + m ∧ G j = 9)) : ig_mq G M L NL r m n fo ↔ ig_al G L NL n (ig_cp G (r * 10 + m) (m + 1) (r * 10)) 0 := by
  constructor
  · rintro ⟨_, ⟨h3, _⟩ | ⟨_, h3⟩⟩
    · exact absurd h3 h
    · exact h3
  · intro h3
    exact ⟨ha, Or.inr ⟨h, h3⟩⟩
noncomputable def ig_ls (P : Nat → Prop) : Nat → Int32
  | 0 => -5
  | n + 1 => @ite Int32 (P n) (Classical.propDecidable (P n)) (nI n) (ig_ls P n)
theorem ig_lst {P : Nat → Prop} {n : Nat} (h : P n) : ig_ls P (n + 1) = nI n := by
  rw [ig_ls, if_pos h]
theorem ig_lsf {P : Nat → Prop} {n : Nat} (h : ¬ P n) : ig_ls P (n + 1) = ig_ls P n := by
  rw [ig_ls, if_neg h]
theorem ig_lsr (P : Nat → Prop) : ∀ n, ig_ls P n = -5 ∨ ∃ j, j < n ∧ ig_ls P n = nI j := by
  intro n
  induction n with
  | zero => exact Or.inl rfl
  | succ n ih =>
    by_cases h : P n
    · exact Or.inr ⟨n, by omega, ig_lst h⟩
    · rw [ig_lsf h]
      rcases ih with h2 | ⟨j, hj, h2⟩
      · exact Or.inl h2
      · exact Or.inr ⟨j, by omega, h2⟩
noncomputable def ig_cn (P : Nat → Prop) : Nat → Int32
  | 0 => 0
  | n + 1 => @ite Int32 (P n) (Classical.propDecidable (P n)) (ig_cn P n + 1) (ig_cn P n)
theorem ig_cnt {P : Nat → Prop} {n : Nat} (h : P n) : ig_cn P (n + 1) = ig_cn P n + 1 := by
  rw [ig_cn, if_pos h]
theorem ig_cnf {P : Nat → Prop} {n : Nat} (h : ¬ P n) : ig_cn P (n + 1) = ig_cn P n := by
  rw [ig_cn, if_neg h]
noncomputable def ig_ca (Q : Nat → Prop) : Nat → Nat → Int32
  | 0, _ => -5
  | d + 1, n => @ite Int32 (Q n) (Classical.propDecidable (Q n)) (nI n) (ig_ca Q d (n + 1))
theorem ig_cat {Q : Nat → Prop} {d n : Nat} (h : Q n) : ig_ca Q (d + 1) n = nI n := by
  rw [ig_ca, if_pos h]
theorem ig_caf {Q : Nat → Prop} {d n : Nat} (h : ¬ Q n) : ig_ca Q (d + 1) n = ig_ca Q d (n + 1) := by
  rw [ig_ca, if_neg h]
def ig_fo (fo : Int32) (nc n : Nat) : Int32 := if fo = 0 then (if nc ≤ n then 0 else 1) else 1
noncomputable def ig_la (G RL M L NL : Nat → Int32) (rc nc : Nat) (fo : Int32) (n : Nat) : Int32 := ig_ls (fun r => ig_mr G RL M L NL r n (ig_fo fo nc n)) rc
def ig_Q (G RL M L NL : Nat → Int32) (rc nc : Nat) (fo : Int32) (n : Nat) : Prop := ¬ ig_la G RL M L NL rc nc fo n = -5 ∧ (M (ig_la G RL M L NL rc nc fo n).toNatClampNeg &&& 1) = 0
-- the component
section
variable {bl : Int32} {rc nc : Nat} {B G RL M L NL : Nat → Int32}
theorem ig_nar1 : narrow .boolean (.int 1) = .int 1 := rfl
theorem ig_nar0 : narrow .boolean (.int 0) = .int 0 := rfl
theorem ig_xr36 {post : Int32 → Prop} {Q : Prop} {r m n : Nat} (hr : r < 12) (hm : 1 ≤ m) (hm2 : m ≤ 10) (hR : RL r = nI m) (h9 : ¬ G (r * 10 + m - 1) = 9) (hn : n ≤ 6) (hN : ∀ j, ∃ m, m ≤ 8 ∧ NL j = nI m) (h1 : Q → post 1) (h0 : ¬ Q → post 0) (hq : Q ↔ ig_al G L NL n (ig_cp G (r * 10 + m) (m + 1) (r * 10)) 0) : wX_ruleMatches_36 post (nI r) (nI n) bl (nI rc) (nI nc) B G RL M L NL :=
  ig_xps hr hm hm2 hR hn hN h9 (fun h => ⟨ig_nar1, h1 (hq.mpr h)⟩) (fun h => ⟨ig_nar0, h0 fun q => h (hq.mp q)⟩)
theorem ig_xr17 {post : Int32 → Prop} {r m n : Nat} {fo : Int32} (hr : r < 12) (hm : 1 ≤ m) (hm2 : m ≤ 10) (hR : RL r = nI m) (h9 : ¬ G (r * 10 + m - 1) = 9) (hn1 : 1 ≤ n) (hn : n ≤ 6) (hN : ∀ j, ∃ m, m ≤ 8 ∧ NL j = nI m) (ha : (M r &&& 4) = 0 ∨ ¬ fo = 0) (h1 : ig_mq G M L NL r m n fo → post 1) (h0 : ¬ ig_mq G M L NL r m n fo → post 0) : wX_ruleMatches_17 post (nI r) (nI n) bl (nI rc) (nI nc) B G RL M L NL := by
  refine ⟨vp_in_nI hr (by omega), ?_⟩
  have hcl : (nI r).toNatClampNeg = r := nI_clamp (by omega)
  rw [hcl]
  by_cases h2 : (M r &&& 2) = 0
  · refine br_t h2 (ig_xhs hr hm2 hR (fun hs => ?_) (fun hs => ?_))
    · exact br_f (by decide) (ig_xr36 hr hm hm2 hR h9 hn hN h1 h0 (ig_mqm ha fun h => h.2 hs))
    · refine br_t rfl (nm_r (pk_mul r 10) ⟨vp_in_nI (by omega) (by omega), ?_⟩)
      have hcl2 : (nI (r * 10)).toNatClampNeg = r * 10 := nI_clamp (by omega)
      rw [hcl2]
      have hq := ig_mqo (L := L) (NL := NL) (n := n) ha h2 hs
      by_cases h10 : G (r * 10) = 10
      · exact br_t h10 (h1 (hq.mpr (Or.inl h10)))
      · refine br_f h10 ⟨vp_in_nI hr (by omega), ?_⟩
        have h3 : nI (r * 10) + RL r = nI (r * 10 + m) := by rw [hR]; exact nI_add _ _
        have h4 : nI n - 1 = nI (n - 1) := pk_sub (b := 1) hn1
        rw [h3, h4]
        refine ig_xpf (by omega) (by omega) (by omega) hN (fun h => ⟨ig_nar1, h1 (hq.mpr (Or.inr h))⟩) (fun h => ⟨ig_nar0, h0 fun q => ?_⟩)
        rcases hq.mp q with h5 | h5
        · exact h10 h5
        · exact h h5
  · exact br_f h2 (ig_xr36 hr hm hm2 hR h9 hn hN h1 h0 (ig_mqm ha fun h => h2 h.1))
theorem ig_xrm {post : Int32 → Prop} {r n : Nat} {fo : Int32} (hrc : rc ≤ 12) (hru : ig_ru G RL rc) (hr : r < rc) (hn1 : 1 ≤ n) (hn : n ≤ 6) (hN : ∀ j, ∃ m, m ≤ 8 ∧ NL j = nI m) (h1 : ig_mr G RL M L NL r n fo → post 1) (h0 : ¬ ig_mr G RL M L NL r n fo → post 0) : wpX_ruleMatches post (bl, nI rc, nI nc, B, G, RL, M, L, NL) (nI r) (nI n) fo := by
  obtain ⟨m, hm, hm2, hR, _, h9⟩ := hru r hr
  have e : (RL r).toNatClampNeg = m := by rw [hR]; exact nI_clamp (by omega)
  unfold ig_mr at h1 h0
  rw [e] at h1 h0
  have hr12 : r < 12 := by omega
  refine ⟨vp_in_nI hr12 (by omega), ?_⟩
  have hcl : (nI r).toNatClampNeg = r := nI_clamp (by omega)
  rw [hcl]
  by_cases h4 : (M r &&& 4) = 0
  · exact br_t h4 (ig_xr17 hr12 hm hm2 hR h9 hn1 hn hN (Or.inl h4) h1 h0)
  · by_cases hf : fo = 0
    · refine br_f h4 (br_t hf (h0 ?_))
      rintro ⟨h | h, _⟩
      · exact h4 h
      · exact h hf
    · exact br_f h4 (br_f hf (ig_xr17 hr12 hm hm2 hR h9 hn1 hn hN (Or.inr hf) h1 h0))
theorem ig_x7 {post : Int32 → Prop} {nn : Nat} {fo : Int32} (hrc : rc ≤ 12) (hru : ig_ru G RL rc) (hn1 : 1 ≤ nn) (hn : nn ≤ 6) (hN : ∀ j, ∃ m, m ≤ 8 ∧ NL j = nI m) : ∀ r, r ≤ rc → post (ig_ls (fun r => ig_mr G RL M L NL r nn fo) r) → ∀ n, r < n → wX_lastMatching_7 post (nI nn) fo bl (nI rc) (nI nc) B G RL M L NL n (nI r + (-1)) := by
  intro r
  induction r with
  | zero =>
    intro _ hp n hd
    obtain ⟨n, rfl⟩ : ∃ m, n = m + 1 := ⟨n - 1, by omega⟩
    exact br_t (by decide) hp
  | succ r ih =>
    intro hr hp n hd
    obtain ⟨n, rfl⟩ : ∃ m, n = m + 1 := ⟨n - 1, by omega⟩
    rw [pk_m1]
    refine br_f (nI_pos (by omega)) (ig_xrm hrc hru (by omega) hn1 hn hN (fun h => ?_) (fun h => ?_))
    · rw [ig_lst h] at hp
      exact br_f (by decide) hp
    · rw [ig_lsf h] at hp
      exact br_t rfl (nm_e (ih (by omega) hp n (by omega)))
theorem ig_xlm {post : Int32 → Prop} {nn : Nat} {fo : Int32} (hrc : rc ≤ 12) (hru : ig_ru G RL rc) (hn1 : 1 ≤ nn) (hn : nn ≤ 6) (hN : ∀ j, ∃ m, m ≤ 8 ∧ NL j = nI m) (hp : post (ig_ls (fun r => ig_mr G RL M L NL r nn fo) rc)) : wpX_lastMatching post (bl, nI rc, nI nc, B, G, RL, M, L, NL) (nI nn) fo :=
  nm_r (Int32.sub_eq_add_neg _ _) ⟨rc + 1, ig_x7 hrc hru hn1 hn hN rc (Nat.le_refl rc) hp _ (by omega)⟩
theorem ig_x39 {post : Int32 → Prop} {J12 : Int32 → Prop} {x1 fo : Int32} {n : Nat} (hrc : rc ≤ 12) (hru : ig_ru G RL rc) (hn1 : 1 ≤ n) (hn : n ≤ 6) (hN : ∀ j, ∃ m, m ≤ 8 ∧ NL j = nI m) (h1 : ig_Q G RL M L NL rc nc fo n → post (nI n)) (h0 : ¬ ig_Q G RL M L NL rc nc fo n → J12 (nI (n + 1))) : wX_leastIgnored_39 post J12 x1 (nI n) (ig_fo fo nc n) (nI n) bl (nI rc) (nI nc) B G RL M L NL := by
  refine ig_xlm hrc hru hn1 hn hN ?_
  show ((ig_la G RL M L NL rc nc fo n = -5 → _) ∧ (¬ ig_la G RL M L NL rc nc fo n = -5 → _))
  by_cases h5 : ig_la G RL M L NL rc nc fo n = -5
  · exact br_t h5 (nm_r (nI_1 n) (h0 fun h => h.1 h5))
  · obtain ⟨j, hj, ej⟩ : ∃ j, j < rc ∧ ig_la G RL M L NL rc nc fo n = nI j := (ig_lsr _ rc).resolve_left h5
    refine br_f h5 ⟨?_, ?_⟩
    · show vp_in (ig_la G RL M L NL rc nc fo n) 12
      rw [ej]
      exact vp_in_nI (by omega) (by omega)
    · by_cases hm : (M (ig_la G RL M L NL rc nc fo n).toNatClampNeg &&& 1) = 0
      · exact br_t hm (h1 ⟨h5, hm⟩)
      · exact br_f hm (nm_r (nI_1 n) (h0 fun h => hm h.2))
theorem ig_x12 {post : Int32 → Prop} {fo : Int32} (hrc : rc ≤ 12) (hru : ig_ru G RL rc) (hc : nc ≤ 6) (hN : ∀ j, ∃ m, m ≤ 8 ∧ NL j = nI m) : ∀ d n, n + d = nc + 1 → 1 ≤ n → post (ig_ca (ig_Q G RL M L NL rc nc fo) d n) → ∀ f, d < f → wX_leastIgnored_12 post fo bl (nI rc) (nI nc) B G RL M L NL f (nI n) := by
  intro d
  induction d with
  | zero =>
    intro n hn h1 hp f hf
    obtain ⟨f, rfl⟩ : ∃ m, f = m + 1 := ⟨f - 1, by omega⟩
    exact br_t (nI_lt (by omega) (by omega)) hp
  | succ d ih =>
    intro n hn h1 hp f hf
    obtain ⟨f, rfl⟩ : ∃ m, f = m + 1 := ⟨f - 1, by omega⟩
    refine br_f (nI_nlt (by omega) (by omega)) ?_
    have key : wX_leastIgnored_39 post (wX_leastIgnored_12 post fo bl (nI rc) (nI nc) B G RL M L NL f) fo (nI n) (ig_fo fo nc n) (nI n) bl (nI rc) (nI nc) B G RL M L NL := by
      refine ig_x39 hrc hru h1 (by omega) hN (fun h => ?_) (fun h => ?_)
      · rw [ig_cat h] at hp
        exact hp
      · rw [ig_caf h] at hp
        exact ih (n + 1) (by omega) (by omega) hp f (by omega)
    by_cases h0 : fo = 0
    · by_cases hle : nc ≤ n
      · have e : ig_fo fo nc n = 0 := by unfold ig_fo; rw [if_pos h0, if_pos hle]
        rw [e] at key
        exact br_t h0 (br_t (nI_le hle (by omega)) key)
      · have e : ig_fo fo nc n = 1 := by unfold ig_fo; rw [if_pos h0, if_neg hle]
        rw [e] at key
        exact br_t h0 (br_f (nI_ge (by omega) (by omega)) key)
    · have e : ig_fo fo nc n = 1 := by unfold ig_fo; rw [if_neg h0]
      rw [e] at key
      exact br_f h0 key
theorem ig_xip {post : Int32 → Prop} (hc1 : 1 ≤ nc) (hc : nc ≤ 6) (h0 : NL (nc - 1) ≤ 0 → post 0) (h1 : ¬ NL (nc - 1) ≤ 0 → post 1) : wpX_isPath post (bl, nI rc, nI nc, B, G, RL, M, L, NL) := by
  have e : nI nc - 1 = nI (nc - 1) := pk_sub (b := 1) hc1
  have hcl : (nI (nc - 1)).toNatClampNeg = nc - 1 := nI_clamp (by omega)
  unfold wpX_isPath
  dsimp only
  rw [e, hcl]
  exact ⟨vp_in_nI (by omega) (by omega), h0, h1⟩
theorem ig_xli {post : Int32 → Prop} {fo : Int32} (hrc : rc ≤ 12) (hru : ig_ru G RL rc) (hc1 : 1 ≤ nc) (hc : nc ≤ 6) (hN : ∀ j, ∃ m, m ≤ 8 ∧ NL j = nI m) (h0 : NL (nc - 1) ≤ 0 → post (-5)) (h1 : ¬ NL (nc - 1) ≤ 0 → post (ig_ca (ig_Q G RL M L NL rc nc fo) nc 1)) : wpX_leastIgnored post (bl, nI rc, nI nc, B, G, RL, M, L, NL) fo := by
  unfold wpX_leastIgnored
  dsimp only
  refine ig_xip hc1 hc (fun h => br_t rfl (h0 h)) (fun h => br_f (by decide) ⟨nc + 1, ?_⟩)
  exact ig_x12 hrc hru hc hN nc 1 (by omega) (by omega) (h1 h) _ (by omega)
theorem ig_x13 {post : Int32 → Prop} {fo : Int32} (hrc : rc ≤ 12) (hru : ig_ru G RL rc) (hc1 : 1 ≤ nc) (hc : nc ≤ 6) (hN : ∀ j, ∃ m, m ≤ 8 ∧ NL j = nI m) (hp : post (ig_cn (fun r => ig_mr G RL M L NL r nc fo) rc)) : ∀ d r, r + d = rc → ∀ f, d < f → wX_matches_13 post fo bl (nI rc) (nI nc) B G RL M L NL f (ig_cn (fun r => ig_mr G RL M L NL r nc fo) r) (nI r) := by
  intro d
  induction d with
  | zero =>
    intro r hr f hf
    obtain ⟨f, rfl⟩ : ∃ m, f = m + 1 := ⟨f - 1, by omega⟩
    have e : r = rc := by omega
    subst e
    exact br_t (nI_le (by omega) (by omega)) hp
  | succ d ih =>
    intro r hr f hf
    obtain ⟨f, rfl⟩ : ∃ m, f = m + 1 := ⟨f - 1, by omega⟩
    have h2 := ih (r + 1) (by omega) f (by omega)
    refine br_f (nI_ge (by omega) (by omega)) (ig_xrm hrc hru (by omega) hc1 hc hN (fun h => ?_) (fun h => ?_))
    · rw [ig_cnt h] at h2
      exact br_f (by decide) (nm_e (nm_r (nI_1 r) h2))
    · rw [ig_cnf h] at h2
      exact br_t rfl (nm_r (nI_1 r) h2)
end
