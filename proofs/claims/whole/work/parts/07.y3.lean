-- the reference: a rule, the last that matches, the count, the least number of names
theorem ig_k1 (x : Int32) : (x &&& 7) &&& 1 = x &&& 1 := by rw [Int32.and_assoc]; rfl
theorem ig_k2 (x : Int32) : (x &&& 7) &&& 2 = x &&& 2 := by rw [Int32.and_assoc]; rfl
theorem ig_k4 (x : Int32) : (x &&& 7) &&& 4 = x &&& 4 := by rw [Int32.and_assoc]; rfl
section
variable {bl : Int32} {rc nc : Nat} {B G RL M L NL : Nat → Int32}
theorem ig_yr72 {post : Int32 → SY → Prop} {Q : Prop} {n : Nat} {ls : List (Nat × Nat)} {PF PT RF LF : Nat → Int32} (hn : n ≤ 6) (hpl : ls.length ≤ 10) (hh : ig_hd ls PF PT) (ho : ig_lo ls) (hN : ∀ j, ∃ m, m ≤ 8 ∧ NL j = nI m) (h1 : Q → ∀ pc PF PT RF LF, post 1 (bl, nI rc, nI nc, pc, B, G, RL, (fun i => M i &&& 7), L, NL, PF, PT, RF, LF)) (h0 : ¬ Q → ∀ pc PF PT RF LF, post 0 (bl, nI rc, nI nc, pc, B, G, RL, (fun i => M i &&& 7), L, NL, PF, PT, RF, LF)) (hq : Q ↔ ig_al G L NL n ls 0) : wY_matchesRule_72 post (nI n) bl (nI rc) (nI nc) (nI ls.length) B G RL (fun i => M i &&& 7) L NL PF PT RF LF :=
  ig_yal hn hpl hh ho hN (fun RF' LF' h => ⟨ig_nar1, h1 (hq.mpr h) _ _ _ _ _⟩) (fun RF' LF' h => ⟨ig_nar0, h0 (fun q => h (hq.mp q)) _ _ _ _ _⟩)
theorem ig_yr17 {post : Int32 → SY → Prop} {r m n : Nat} {fo pc : Int32} {PF PT RF LF : Nat → Int32} (hr : r < 12) (hm : 1 ≤ m) (hm2 : m ≤ 10) (hR : RL r = nI m) (hf9 : ¬ G (r * 10) = 9) (h9 : ¬ G (r * 10 + m - 1) = 9) (hn1 : 1 ≤ n) (hn : n ≤ 6) (hN : ∀ j, ∃ m, m ≤ 8 ∧ NL j = nI m) (ha : (M r &&& 4) = 0 ∨ ¬ fo = 0)
    (h1 : ig_mq G M L NL r m n fo → ∀ pc PF PT RF LF, post 1 (bl, nI rc, nI nc, pc, B, G, RL, (fun i => M i &&& 7), L, NL, PF, PT, RF, LF)) (h0 : ¬ ig_mq G M L NL r m n fo → ∀ pc PF PT RF LF, post 0 (bl, nI rc, nI nc, pc, B, G, RL, (fun i => M i &&& 7), L, NL, PF, PT, RF, LF)) : wY_matchesRule_17 post (nI r) (nI n) bl (nI rc) (nI nc) pc B G RL (fun i => M i &&& 7) L NL PF PT RF LF := by
  refine ig_ycut hr hm2 hR fun PF' PT' hh => ?_
  have hpl := ig_cpB (G := G) (r := r) hm hm2 hf9
  have ho := ig_cpO hr hm hm2 h9
  have hcl : (nI r).toNatClampNeg = r := nI_clamp (by omega)
  by_cases hs : ∃ j, r * 10 ≤ j ∧ j < r * 10 + m ∧ G j = 9
  · obtain ⟨j, hj1, hj2, hj3⟩ := hs
    have h2 := ig_cp2 (G := G) hj2 hj3 (m + 1) (r * 10) (by omega)
    refine br_f (fun h => ?_) (ig_yr72 hn hpl hh ho hN h1 h0 (ig_mqm ha fun h => h.2 ⟨j, hj1, hj2, hj3⟩))
    have h3 : (ig_cp G (r * 10 + m) (m + 1) (r * 10)).length = 1 := (nI_eq (b := 1) (by omega) (by omega)).mp h
    omega
  · have h2 : ig_cp G (r * 10 + m) (m + 1) (r * 10) = [(r * 10, r * 10 + m)] := ig_cp1 (r * 10) (m + 1) (fun i h3 h4 h5 => hs ⟨i, by omega, h3, h5⟩) (by omega) (by omega)
    have hlen : (ig_cp G (r * 10 + m) (m + 1) (r * 10)).length = 1 := by rw [h2]; rfl
    refine br_t (congrArg nI hlen) ⟨vp_in_nI hr (by omega), ?_⟩
    rw [hcl, ig_k2]
    by_cases hm4 : (M r &&& 2) = 0
    · have h10 : nI r * 10 = nI (r * 10) := pk_mul r 10
      have hcl2 : (nI (r * 10)).toNatClampNeg = r * 10 := nI_clamp (by omega)
      have e4 : nI n - 1 = nI (n - 1) := pk_sub (b := 1) hn1
      have hq := ig_mqo (L := L) (NL := NL) (n := n) ha hm4 hs
      refine br_t hm4 ?_
      rw [h10, hcl2, e4]
      refine ⟨vp_in_nI (by omega) (by omega), ?_⟩
      by_cases hg : G (r * 10) = 10
      · exact br_t hg (h1 (hq.mpr (Or.inl hg)) _ _ _ _ _)
      · have h5 := hh 0 (r * 10) (r * 10 + m) (by rw [h2]; rfl)
        refine br_f hg (ig_ypf (pt := 0) (by omega) h5.1 h5.2 (by omega) (by omega) (by omega) (by omega) hN (fun RF' h => ?_) (fun RF' h => ?_))
        · exact br_f (by decide) (h1 (hq.mpr (Or.inr h)) _ _ _ _ _)
        · refine br_t rfl (h0 (fun q => ?_) _ _ _ _ _)
          rcases hq.mp q with h6 | h6
          · exact hg h6
          · exact h h6
    · exact br_f hm4 (ig_yr72 hn hpl hh ho hN h1 h0 (ig_mqm ha fun h => hm4 h.1))
theorem ig_yrm {post : Int32 → SY → Prop} {r n : Nat} {fo pc : Int32} {PF PT RF LF : Nat → Int32} (hrc : rc ≤ 12) (hru : ig_ru G RL rc) (hr : r < rc) (hn1 : 1 ≤ n) (hn : n ≤ 6) (hN : ∀ j, ∃ m, m ≤ 8 ∧ NL j = nI m)
    (h1 : ig_mr G RL M L NL r n fo → ∀ pc PF PT RF LF, post 1 (bl, nI rc, nI nc, pc, B, G, RL, (fun i => M i &&& 7), L, NL, PF, PT, RF, LF)) (h0 : ¬ ig_mr G RL M L NL r n fo → ∀ pc PF PT RF LF, post 0 (bl, nI rc, nI nc, pc, B, G, RL, (fun i => M i &&& 7), L, NL, PF, PT, RF, LF)) : wpY_matchesRule post (bl, nI rc, nI nc, pc, B, G, RL, (fun i => M i &&& 7), L, NL, PF, PT, RF, LF) (nI r) (nI n) fo := by
  obtain ⟨m, hm, hm2, hR, hf9, h9⟩ := hru r hr
  have e : (RL r).toNatClampNeg = m := by rw [hR]; exact nI_clamp (by omega)
  unfold ig_mr at h1 h0
  rw [e] at h1 h0
  have hr12 : r < 12 := by omega
  refine ⟨vp_in_nI hr12 (by omega), ?_⟩
  have hcl : (nI r).toNatClampNeg = r := nI_clamp (by omega)
  rw [hcl, ig_k4]
  by_cases h4 : (M r &&& 4) = 0
  · exact br_t h4 (ig_yr17 hr12 hm hm2 hR hf9 h9 hn1 hn hN (Or.inl h4) h1 h0)
  · by_cases hf : fo = 0
    · refine br_f h4 (br_t hf (h0 ?_ _ _ _ _ _))
      rintro ⟨h | h, _⟩
      · exact h4 h
      · exact h hf
    · exact br_f h4 (br_f hf (ig_yr17 hr12 hm hm2 hR hf9 h9 hn1 hn hN (Or.inr hf) h1 h0))
theorem ig_y6 {post : Int32 → SY → Prop} {nn : Nat} {fo : Int32} (hrc : rc ≤ 12) (hru : ig_ru G RL rc) (hn1 : 1 ≤ nn) (hn : nn ≤ 6) (hN : ∀ j, ∃ m, m ≤ 8 ∧ NL j = nI m) (hp : ∀ pc PF PT RF LF, post (ig_ls (fun r => ig_mr G RL M L NL r nn fo) rc) (bl, nI rc, nI nc, pc, B, G, RL, (fun i => M i &&& 7), L, NL, PF, PT, RF, LF)) : ∀ d r pc PF PT RF LF, r + d = rc → ∀ f, d < f → wY_lastFor_6 post (nI nn) fo f (ig_ls (fun r => ig_mr G RL M L NL r nn fo) r) (nI r) bl (nI rc) (nI nc) pc B G RL (fun i => M i &&& 7) L NL PF PT RF LF := by
  intro d
  induction d with
  | zero =>
    intro r pc PF PT RF LF hr f hf
    obtain ⟨f, rfl⟩ : ∃ m, f = m + 1 := ⟨f - 1, by omega⟩
    have e : r = rc := by omega
    subst e
    exact br_t (nI_le (by omega) (by omega)) (hp _ _ _ _ _)
  | succ d ih =>
    intro r pc PF PT RF LF hr f hf
    obtain ⟨f, rfl⟩ : ∃ m, f = m + 1 := ⟨f - 1, by omega⟩
    refine br_f (nI_ge (by omega) (by omega)) (ig_yrm hrc hru (by omega) hn1 hn hN (fun h pc PF PT RF LF => ?_) (fun h pc PF PT RF LF => ?_))
    · have h2 := ih (r + 1) pc PF PT RF LF (by omega) f (by omega)
      rw [ig_lst h] at h2
      exact br_f (by decide) (nm_r (nI_1 r) h2)
    · have h2 := ih (r + 1) pc PF PT RF LF (by omega) f (by omega)
      rw [ig_lsf h] at h2
      exact br_t rfl (nm_r (nI_1 r) h2)
theorem ig_ylf {post : Int32 → SY → Prop} {nn : Nat} {fo pc : Int32} {PF PT RF LF : Nat → Int32} (hrc : rc ≤ 12) (hru : ig_ru G RL rc) (hn1 : 1 ≤ nn) (hn : nn ≤ 6) (hN : ∀ j, ∃ m, m ≤ 8 ∧ NL j = nI m) (hp : ∀ pc PF PT RF LF, post (ig_ls (fun r => ig_mr G RL M L NL r nn fo) rc) (bl, nI rc, nI nc, pc, B, G, RL, (fun i => M i &&& 7), L, NL, PF, PT, RF, LF)) : wpY_lastFor post (bl, nI rc, nI nc, pc, B, G, RL, (fun i => M i &&& 7), L, NL, PF, PT, RF, LF) (nI nn) fo :=
  ⟨rc + 1, ig_y6 hrc hru hn1 hn hN hp rc 0 pc PF PT RF LF (by omega) _ (by omega)⟩
theorem ig_y39 {post : Int32 → SY → Prop} {J12 : Int32 → Int32 → Int32 → Int32 → Int32 → (Nat → Int32) → (Nat → Int32) → (Nat → Int32) → (Nat → Int32) → (Nat → Int32) → (Nat → Int32) → (Nat → Int32) → (Nat → Int32) → (Nat → Int32) → (Nat → Int32) → Prop} {x1 fo pc : Int32} {n : Nat} {PF PT RF LF : Nat → Int32} (hrc : rc ≤ 12) (hru : ig_ru G RL rc) (hn1 : 1 ≤ n) (hn : n ≤ 6) (hN : ∀ j, ∃ m, m ≤ 8 ∧ NL j = nI m) (h1 : ig_Q G RL M L NL rc nc fo n → ∀ pc PF PT RF LF, post (nI n) (bl, nI rc, nI nc, pc, B, G, RL, (fun i => M i &&& 7), L, NL, PF, PT, RF, LF)) (h0 : ¬ ig_Q G RL M L NL rc nc fo n → ∀ pc PF PT RF LF, J12 (nI (n + 1)) bl (nI rc) (nI nc) pc B G RL (fun i => M i &&& 7) L NL PF PT RF LF) : wY_cutAt_39 post J12 x1 (nI n) (ig_fo fo nc n) (nI n) bl (nI rc) (nI nc) pc B G RL (fun i => M i &&& 7) L NL PF PT RF LF := by
  refine ig_ylf hrc hru hn1 hn hN fun pc PF PT RF LF => ?_
  show ((ig_la G RL M L NL rc nc fo n < 0 → _) ∧ (¬ ig_la G RL M L NL rc nc fo n < 0 → _))
  rcases ig_lsr (fun r => ig_mr G RL M L NL r n (ig_fo fo nc n)) rc with h5 | ⟨j, hj, ej⟩
  · have h5 : ig_la G RL M L NL rc nc fo n = -5 := h5
    exact br_t (by rw [h5]; decide) (nm_r (nI_1 n) (h0 (fun h => h.1 h5) _ _ _ _ _))
  · have ej : ig_la G RL M L NL rc nc fo n = nI j := ej
    have hne : ¬ ig_la G RL M L NL rc nc fo n = -5 := by
      rw [ej]
      intro h
      have h2 : ¬ nI j < 0 := nI_pos (by omega)
      rw [h] at h2
      exact h2 (by decide)
    refine br_f (by rw [ej]; exact nI_pos (by omega)) ⟨?_, ?_⟩
    · show vp_in (ig_la G RL M L NL rc nc fo n) 12
      rw [ej]
      exact vp_in_nI (by omega) (by omega)
    · show (((M (ig_la G RL M L NL rc nc fo n).toNatClampNeg &&& 7) &&& 1 = 0 → _) ∧ (¬ (M (ig_la G RL M L NL rc nc fo n).toNatClampNeg &&& 7) &&& 1 = 0 → _))
      rw [ig_k1]
      by_cases hm : (M (ig_la G RL M L NL rc nc fo n).toNatClampNeg &&& 1) = 0
      · exact br_t hm (h1 ⟨hne, hm⟩ _ _ _ _ _)
      · exact br_f hm (nm_r (nI_1 n) (h0 (fun h => hm h.2) _ _ _ _ _))
theorem ig_y12 {post : Int32 → SY → Prop} {fo : Int32} (hrc : rc ≤ 12) (hru : ig_ru G RL rc) (hc : nc ≤ 6) (hN : ∀ j, ∃ m, m ≤ 8 ∧ NL j = nI m) : ∀ d n pc PF PT RF LF, n + d = nc + 1 → 1 ≤ n → (∀ pc PF PT RF LF, post (ig_ca (ig_Q G RL M L NL rc nc fo) d n) (bl, nI rc, nI nc, pc, B, G, RL, (fun i => M i &&& 7), L, NL, PF, PT, RF, LF)) → ∀ f, d < f → wY_cutAt_12 post fo f (nI n) bl (nI rc) (nI nc) pc B G RL (fun i => M i &&& 7) L NL PF PT RF LF := by
  intro d
  induction d with
  | zero =>
    intro n pc PF PT RF LF hn h1 hp f hf
    obtain ⟨f, rfl⟩ : ∃ m, f = m + 1 := ⟨f - 1, by omega⟩
    exact br_t (nI_lt (by omega) (by omega)) (hp _ _ _ _ _)
  | succ d ih =>
    intro n pc PF PT RF LF hn h1 hp f hf
    obtain ⟨f, rfl⟩ : ∃ m, f = m + 1 := ⟨f - 1, by omega⟩
    refine br_f (nI_nlt (by omega) (by omega)) ?_
    have key : wY_cutAt_39 post (wY_cutAt_12 post fo f) fo (nI n) (ig_fo fo nc n) (nI n) bl (nI rc) (nI nc) pc B G RL (fun i => M i &&& 7) L NL PF PT RF LF := by
      refine ig_y39 hrc hru h1 (by omega) hN (fun h => ?_) (fun h pc PF PT RF LF => ?_)
      · rw [ig_cat h] at hp
        exact hp
      · rw [ig_caf h] at hp
        exact ih (n + 1) pc PF PT RF LF (by omega) (by omega) hp f (by omega)
    by_cases h0 : fo = 0
    · by_cases hle : nc ≤ n
      · have e : ig_fo fo nc n = 0 := by unfold ig_fo; rw [if_pos h0, if_pos hle]
        rw [e] at key
        exact br_t h0 (br_t (nI_le hle (by omega)) key)
      · have e : ig_fo fo nc n = 1 := by unfold ig_fo; rw [if_pos h0, if_neg hle]
        rw [e] at key
        exact br_t h0 (br_f (nI_ge (by omega) (by omega)) key)
    · have e : ig_fo fo nc n = 1 := by unfold ig_fo; rw [if_neg h0]
      rw [e] at key
      exact br_f h0 key
theorem ig_yip {post : Int32 → Prop} {pc : Int32} {K PF PT RF LF : Nat → Int32} (hc1 : 1 ≤ nc) (hc : nc ≤ 6) (h0 : NL (nc - 1) ≤ 0 → post 0) (h1 : ¬ NL (nc - 1) ≤ 0 → post 1) : wpY_isPath post (bl, nI rc, nI nc, pc, B, G, RL, K, L, NL, PF, PT, RF, LF) := by
  have e : nI nc - 1 = nI (nc - 1) := pk_sub (b := 1) hc1
  have hcl : (nI (nc - 1)).toNatClampNeg = nc - 1 := nI_clamp (by omega)
  unfold wpY_isPath
  dsimp only
  rw [e, hcl]
  exact ⟨vp_in_nI (by omega) (by omega), h0, h1⟩
theorem ig_yca {post : Int32 → SY → Prop} {fo pc : Int32} {PF PT RF LF : Nat → Int32} (hrc : rc ≤ 12) (hru : ig_ru G RL rc) (hc1 : 1 ≤ nc) (hc : nc ≤ 6) (hN : ∀ j, ∃ m, m ≤ 8 ∧ NL j = nI m) (h0 : NL (nc - 1) ≤ 0 → ∀ pc PF PT RF LF, post (-5) (bl, nI rc, nI nc, pc, B, G, RL, (fun i => M i &&& 7), L, NL, PF, PT, RF, LF)) (h1 : ¬ NL (nc - 1) ≤ 0 → ∀ pc PF PT RF LF, post (ig_ca (ig_Q G RL M L NL rc nc fo) nc 1) (bl, nI rc, nI nc, pc, B, G, RL, (fun i => M i &&& 7), L, NL, PF, PT, RF, LF)) : wpY_cutAt post (bl, nI rc, nI nc, pc, B, G, RL, (fun i => M i &&& 7), L, NL, PF, PT, RF, LF) fo := by
  unfold wpY_cutAt
  dsimp only
  refine ig_yip hc1 hc (fun h => br_t rfl (h0 h _ _ _ _ _)) (fun h => br_f (by decide) ⟨nc + 1, ?_⟩)
  exact ig_y12 hrc hru hc hN nc 1 pc PF PT RF LF (by omega) (by omega) (h1 h) _ (by omega)
theorem ig_y4 {post : Int32 → SY → Prop} {fo : Int32} (hrc : rc ≤ 12) (hru : ig_ru G RL rc) (hc1 : 1 ≤ nc) (hc : nc ≤ 6) (hN : ∀ j, ∃ m, m ≤ 8 ∧ NL j = nI m) (hl : ¬ NL (nc - 1) ≤ 0) (hp : ∀ pc PF PT RF LF, post (ig_cn (fun r => ig_mr G RL M L NL r nc fo) rc) (bl, nI rc, nI nc, pc, B, G, RL, (fun i => M i &&& 7), L, NL, PF, PT, RF, LF)) : ∀ d r pc PF PT RF LF, r + d = rc → ∀ f, d < f → wY_matches_4 post fo f (ig_cn (fun r => ig_mr G RL M L NL r nc fo) r) (nI r) bl (nI rc) (nI nc) pc B G RL (fun i => M i &&& 7) L NL PF PT RF LF := by
  intro d
  induction d with
  | zero =>
    intro r pc PF PT RF LF hr f hf
    obtain ⟨f, rfl⟩ : ∃ m, f = m + 1 := ⟨f - 1, by omega⟩
    have e : r = rc := by omega
    subst e
    exact br_t (nI_le (by omega) (by omega)) (hp _ _ _ _ _)
  | succ d ih =>
    intro r pc PF PT RF LF hr f hf
    obtain ⟨f, rfl⟩ : ∃ m, f = m + 1 := ⟨f - 1, by omega⟩
    refine br_f (nI_ge (by omega) (by omega)) (ig_yip hc1 hc (fun h => absurd h hl) (fun _ => br_f (by decide) (ig_yrm hrc hru (by omega) hc1 hc hN (fun h pc PF PT RF LF => ?_) (fun h pc PF PT RF LF => ?_))))
    · have h2 := ih (r + 1) pc PF PT RF LF (by omega) f (by omega)
      rw [ig_cnt h] at h2
      exact br_f (by decide) (nm_e (nm_r (nI_1 r) h2))
    · have h2 := ih (r + 1) pc PF PT RF LF (by omega) f (by omega)
      rw [ig_cnf h] at h2
      exact br_t rfl (nm_r (nI_1 r) h2)
theorem ig_y4n {post : Int32 → SY → Prop} {fo pc : Int32} {K PF PT RF LF : Nat → Int32} (hrc : rc ≤ 12) (hc1 : 1 ≤ nc) (hc : nc ≤ 6) (hl : NL (nc - 1) ≤ 0) (hp : post 0 (bl, nI rc, nI nc, pc, B, G, RL, K, L, NL, PF, PT, RF, LF)) : ∀ d r, r + d = rc → ∀ f, d < f → wY_matches_4 post fo f 0 (nI r) bl (nI rc) (nI nc) pc B G RL K L NL PF PT RF LF := by
  intro d
  induction d with
  | zero =>
    intro r hr f hf
    obtain ⟨f, rfl⟩ : ∃ m, f = m + 1 := ⟨f - 1, by omega⟩
    exact br_t (nI_le (by omega) (by omega)) hp
  | succ d ih =>
    intro r hr f hf
    obtain ⟨f, rfl⟩ : ∃ m, f = m + 1 := ⟨f - 1, by omega⟩
    exact br_f (nI_ge (by omega) (by omega)) (ig_yip hc1 hc (fun h => br_t rfl (nm_r (nI_1 r) (ih (r + 1) (by omega) f (by omega)))) (fun h => absurd hl h))
end
