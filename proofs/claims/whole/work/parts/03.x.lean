-- the component's walks against the picture
section
variable {bl rc nc : Int32} {B G RL M L NL : Nat → Int32}
theorem ig_x59 {post : Int32 → Prop} {J20 : Int32 → Int32 → Prop} {x2 x6 x7 c : Int32} {nm sz : Nat} (hn : nm < 6) (hs : sz ≤ 8) : ∀ d k x9, k + d = sz → (∀ y, (∀ j, j < 32 → (bt y j = true ↔ bt x9 j = true ∨ ∃ i, k ≤ i ∧ i < sz ∧ j = i + 1 ∧ (bt x6 i = true ∧ (c = 8 ∨ c = L (nm * 8 + i))))) → J20 y (x7 + 1)) → ∀ n, d < n → wX_partFits_59 post J20 x2 (nI (nm * 8)) (nI sz) x6 x7 c bl rc nc B G RL M L NL n x9 (nI k) := by
  intro d
  induction d with
  | zero =>
    intro k x9 hk hJ n hd
    obtain ⟨n, rfl⟩ : ∃ m, n = m + 1 := ⟨n - 1, by omega⟩
    refine br_t (nI_le (by omega) (by omega)) (nm_e (hJ x9 fun j hj => ⟨Or.inl, ?_⟩))
    rintro (h | ⟨i, h1, h2, _⟩)
    · exact h
    · omega
  | succ d ih =>
    intro k x9 hk hJ n hd
    obtain ⟨n, rfl⟩ : ∃ m, n = m + 1 := ⟨n - 1, by omega⟩
    refine br_f (nI_ge (by omega) (by omega)) ?_
    have hk32 : k < 32 := by omega
    have hsk : ¬ (bt x6 k = true ∧ (c = 8 ∨ c = L (nm * 8 + k))) → wX_partFits_59 post J20 x2 (nI (nm * 8)) (nI sz) x6 x7 c bl rc nc B G RL M L NL n x9 (nI (k + 1)) := fun hq =>
      ih (k + 1) x9 (by omega) (fun y hy => hJ y fun j hj => (hy j hj).trans (ig_e1 (Q := fun i => bt x6 i = true ∧ (c = 8 ∨ c = L (nm * 8 + i))) hq)) n (by omega)
    have htk : (bt x6 k = true ∧ (c = 8 ∨ c = L (nm * 8 + k))) → wX_partFits_98 post J20 (wX_partFits_59 post J20 x2 (nI (nm * 8)) (nI sz) x6 x7 c bl rc nc B G RL M L NL n) x2 (nI (nm * 8)) (nI sz) x6 x7 c x9 (nI k) bl rc nc B G RL M L NL := fun hq =>
      nm_r (e' := x9 ||| ((1 : Int32) <<< (nI (k + 1) &&& 31))) (by rw [nI_1 k]) (nm_r (nI_1 k) (ih (k + 1) _ (by omega) (fun y hy => hJ y fun j hj => (hy j hj).trans (ig_e2 (Q := fun i => bt x6 i = true ∧ (c = 8 ∨ c = L (nm * 8 + i))) (by omega) hq (ig_set x9 (by omega) hj))) n (by omega)))
    by_cases hb : bt x6 k = true
    · refine br_f (ig_tst1 x6 hk32 hb) ?_
      by_cases h8 : c = 8
      · exact br_t h8 (htk ⟨hb, Or.inl h8⟩)
      · have ha : nI (nm * 8) + nI k = nI (nm * 8 + k) := nI_add _ _
        have hi : (nI (nm * 8) + nI k).toNatClampNeg = nm * 8 + k := by rw [ha]; exact nI_clamp (by omega)
        refine br_f h8 ⟨by rw [ha]; exact vp_in_nI (by omega) (by omega), ?_⟩
        rw [hi]
        by_cases hl : c = L (nm * 8 + k)
        · exact br_t hl (htk ⟨hb, Or.inr hl⟩)
        · refine br_f hl (nm_r (nI_1 k) (hsk ?_))
          rintro ⟨_, h | h⟩
          · exact h8 h
          · exact hl h
    · exact br_t (ig_tst0 x6 hk32 hb) (nm_r (nI_1 k) (hsk fun h => hb h.1))
theorem ig_x20 {post : Int32 → Prop} {P : Prop} {e nm sz : Nat} (he : e ≤ 120) (hn : nm < 6) (hs : sz ≤ 8) (h1 : P → post 1) (h0 : ¬ P → post 0) : ∀ d i x6, i + d = e → (P ↔ ∃ k, k ≤ sz ∧ bt x6 k = true ∧ ig_ft G (fun k => L (nm * 8 + k)) sz e d k) → ∀ n, d < n → wX_partFits_20 post (nI e) (nI (nm * 8)) (nI sz) bl rc nc B G RL M L NL n x6 (nI i) := by
  intro d
  induction d with
  | zero =>
    intro i x6 hi hP n hd
    obtain ⟨n, rfl⟩ : ∃ m, n = m + 1 := ⟨n - 1, by omega⟩
    refine br_t (nI_le (by omega) (by omega)) ?_
    by_cases hb : bt x6 sz = true
    · exact br_f (ig_tst1 x6 (by omega) hb) (h1 (hP.mpr ⟨sz, Nat.le_refl sz, hb, rfl⟩))
    · refine br_t (ig_tst0 x6 (by omega) hb) (h0 fun p => ?_)
      obtain ⟨k, _, h2, h3⟩ := hP.mp p
      have h3 : k = sz := h3
      rw [h3] at h2
      exact hb h2
  | succ d ih =>
    intro i x6 hi hP n hd
    obtain ⟨n, rfl⟩ : ∃ m, n = m + 1 := ⟨n - 1, by omega⟩
    refine br_f (nI_ge (by omega) (by omega)) ⟨vp_in_nI (by omega) (by omega), nm_r (congrArg G (nI_clamp (by omega))) ?_⟩
    by_cases h7 : G i = 7
    · refine br_t h7 (nm_e (nm_r (nI_1 i) (ih (i + 1) _ (by omega) (hP.trans ?_) n (by omega))))
      exact ig_sx (ig_ft7 hi h7) fun k hk => ig_fill x6 (by omega)
    · refine br_f h7 ⟨sz + 1, ig_x59 hn hs sz 0 0 (by omega) (fun y hy => ?_) (sz + 1) (by omega)⟩
      rw [nI_1 i]
      refine ih (i + 1) y (by omega) (hP.trans (ig_sn (ig_ftn hi h7) fun k hk => (hy k (by omega)).trans ?_)) n (by omega)
      constructor
      · rintro (h | ⟨j, _, h2, h3, h4⟩)
        · rw [b_0] at h
          exact Bool.noConfusion h
        · exact ⟨j, h2, h3, h4⟩
      · rintro ⟨j, h2, h3, h4⟩
        exact Or.inr ⟨j, Nat.zero_le j, h2, h3, h4⟩
theorem ig_b1a {F : Nat → Prop} {sz : Nat} : F 0 ↔ ∃ k, k ≤ sz ∧ bt 1 k = true ∧ F k := by
  constructor
  · intro h
    exact ⟨0, Nat.zero_le _, by decide, h⟩
  · rintro ⟨k, _, h, hf⟩
    rw [ig_bt1, decide_eq_true_iff] at h
    rw [h] at hf
    exact hf
theorem ig_xpf {post : Int32 → Prop} {s e nm : Nat} (hse : s ≤ e) (he : e ≤ 120) (hn : nm < 6) (hN : ∀ j, ∃ m, m ≤ 8 ∧ NL j = nI m) (h1 : ig_pf G L NL s e nm → post 1) (h0 : ¬ ig_pf G L NL s e nm → post 0) : wpX_partFits post (bl, rc, nc, B, G, RL, M, L, NL) (nI s) (nI e) (nI nm) := by
  obtain ⟨sz, hs, hz⟩ := hN nm
  have hz2 : (NL nm).toNatClampNeg = sz := by rw [hz]; exact nI_clamp (by omega)
  have hz3 : NL (nI nm).toNatClampNeg = nI sz := by rw [nI_clamp (by omega)]; exact hz
  refine nm_r (pk_mul nm 8) ⟨vp_in_nI hn (by omega), nm_r hz3 ⟨e - s + 1, ig_x20 he hn hs h1 h0 (e - s) s 1 (by omega) ?_ _ (by omega)⟩⟩
  unfold ig_pf
  rw [hz2]
  exact ig_b1a
theorem ig_x78 {post : Int32 → Prop} {J21 : Int32 → Int32 → Int32 → Prop} {x4 x5 : Int32} {s t nn : Nat} (hst : s ≤ t) (ht : t ≤ 120) (hnn : nn ≤ 6) (hN : ∀ j, ∃ m, m ≤ 8 ∧ NL j = nI m) : ∀ d k x7, k + d = nn → (∀ y, (∀ j, j < 32 → (bt y j = true ↔ bt x7 j = true ∨ ∃ i, k ≤ i ∧ i < nn ∧ j = i + 1 ∧ (bt x5 i = true ∧ ig_pf G L NL s t i))) → J21 (nI (t + 1)) y (nI (t + 1))) → ∀ n, d < n → wX_partsFit_78 post J21 (nI nn) (nI s) x4 x5 (nI t) bl rc nc B G RL M L NL n x7 (nI k) := by
  intro d
  induction d with
  | zero =>
    intro k x7 hk hJ n hd
    obtain ⟨n, rfl⟩ : ∃ m, n = m + 1 := ⟨n - 1, by omega⟩
    refine br_t (nI_le (by omega) (by omega)) (nm_r (nI_1 t) (nm_r (nI_1 t) (hJ x7 fun j hj => ⟨Or.inl, ?_⟩)))
    rintro (h | ⟨i, h1, h2, _⟩)
    · exact h
    · omega
  | succ d ih =>
    intro k x7 hk hJ n hd
    obtain ⟨n, rfl⟩ : ∃ m, n = m + 1 := ⟨n - 1, by omega⟩
    refine br_f (nI_ge (by omega) (by omega)) ?_
    have hk32 : k < 32 := by omega
    have hsk : ¬ (bt x5 k = true ∧ ig_pf G L NL s t k) → wX_partsFit_78 post J21 (nI nn) (nI s) x4 x5 (nI t) bl rc nc B G RL M L NL n x7 (nI (k + 1)) := fun hq =>
      ih (k + 1) x7 (by omega) (fun y hy => hJ y fun j hj => (hy j hj).trans (ig_e1 (Q := fun i => bt x5 i = true ∧ ig_pf G L NL s t i) hq)) n (by omega)
    by_cases hb : bt x5 k = true
    · refine br_f (ig_tst1 x5 hk32 hb) (ig_xpf hst ht (by omega) hN (fun hp => ?_) (fun hp => ?_))
      · refine br_f (by decide) (nm_r (e' := x7 ||| ((1 : Int32) <<< (nI (k + 1) &&& 31))) (by rw [nI_1 k]) (nm_r (nI_1 k) (ih (k + 1) _ (by omega) (fun y hy => hJ y fun j hj => (hy j hj).trans ?_) n (by omega))))
        exact ig_e2 (Q := fun i => bt x5 i = true ∧ ig_pf G L NL s t i) (by omega) ⟨hb, hp⟩ (ig_set x7 (by omega) hj)
      · exact br_t rfl (nm_r (nI_1 k) (hsk fun h => hp h.2))
    · exact br_t (ig_tst0 x5 hk32 hb) (nm_r (nI_1 k) (hsk fun h => hb h.1))
theorem ig_x21 {post : Int32 → Prop} {P : Prop} {e nn : Nat} (he : e ≤ 120) (hnn : nn ≤ 6) (hN : ∀ j, ∃ m, m ≤ 8 ∧ NL j = nI m) (h9 : ¬ G (e - 1) = 9) (h1 : P → post 1) (h0 : ¬ P → post 0) : ∀ d i s x5, i + d = e + 1 → s ≤ i → (d = 0 ∨ s < e) → (P ↔ ∃ k, k ≤ nn ∧ bt x5 k = true ∧ ig_al G L NL nn (ig_cp G e d s) k) → ∀ n, d < n → wX_partsFit_21 post (nI nn) (nI e) bl rc nc B G RL M L NL n (nI s) x5 (nI i) := by
  intro d
  induction d with
  | zero =>
    intro i s x5 hi hsi hs hP n hd
    obtain ⟨n, rfl⟩ : ∃ m, n = m + 1 := ⟨n - 1, by omega⟩
    refine br_t (nI_lt (by omega) (by omega)) ?_
    by_cases hb : bt x5 nn = true
    · exact br_f (ig_tst1 x5 (by omega) hb) (h1 (hP.mpr ⟨nn, Nat.le_refl nn, hb, rfl⟩))
    · refine br_t (ig_tst0 x5 (by omega) hb) (h0 fun p => ?_)
      obtain ⟨k, _, h2, h3⟩ := hP.mp p
      have h3 : k = nn := h3
      rw [h3] at h2
      exact hb h2
  | succ d ih =>
    intro i s x5 hi hsi hs hP n hd
    obtain ⟨n, rfl⟩ : ∃ m, n = m + 1 := ⟨n - 1, by omega⟩
    refine br_f (nI_nlt (by omega) (by omega)) ?_
    have hse : s < e := by omega
    have hcut : (d = 0 ∨ G i = 9) → wX_partsFit_50 post (wX_partsFit_21 post (nI nn) (nI e) bl rc nc B G RL M L NL n) (nI nn) (nI s) (nI e) x5 (nI i) bl rc nc B G RL M L NL := by
      intro hc
      have hs' : d = 0 ∨ i + 1 < e := by
        rcases Nat.eq_zero_or_pos d with h | h
        · exact Or.inl h
        · rcases hc with h' | h'
          · omega
          · refine Or.inr ?_
            rcases Nat.lt_or_ge (i + 1) e with h2 | h2
            · exact h2
            · have e1 : i = e - 1 := by omega
              rw [e1] at h'
              exact absurd h' h9
      rw [ig_cpc (i := i) (by omega) hc] at hP
      have hcl : (nI s).toNatClampNeg = s := nI_clamp (by omega)
      refine ⟨vp_in_nI (by omega) (by omega), ?_⟩
      rw [hcl]
      by_cases h10 : G s = 10
      · refine br_t h10 (nm_e (nm_r (nI_1 i) (nm_r (nI_1 i) (ih (i + 1) (i + 1) _ (by omega) (Nat.le_refl _) hs' (hP.trans ?_) n (by omega)))))
        exact ig_sx (ig_al7 h10) fun k hk => ig_fill x5 (by omega)
      · refine br_f h10 ⟨nn + 1, ig_x78 hsi (by omega) hnn hN nn 0 0 (by omega) (fun y hy => ?_) (nn + 1) (by omega)⟩
        refine ih (i + 1) (i + 1) y (by omega) (Nat.le_refl _) hs' (hP.trans (ig_sn (ig_aln h10) fun k hk => (hy k (by omega)).trans ?_)) n (by omega)
        constructor
        · rintro (h | ⟨j, _, h2, h3, h4⟩)
          · rw [b_0] at h
            exact Bool.noConfusion h
          · exact ⟨j, h2, h3, h4⟩
        · rintro ⟨j, h2, h3, h4⟩
          exact Or.inr ⟨j, Nat.zero_le j, h2, h3, h4⟩
    rcases Nat.eq_zero_or_pos d with hd0 | hd0
    · exact br_t (nI_le (by omega) (by omega)) (hcut (Or.inl hd0))
    · refine br_f (nI_ge (by omega) (by omega)) ⟨vp_in_nI (by omega) (by omega), ?_⟩
      have hcl : (nI i).toNatClampNeg = i := nI_clamp (by omega)
      rw [hcl]
      by_cases hg : G i = 9
      · exact br_t hg (hcut (Or.inr hg))
      · rw [ig_cpn (i := i) (by omega) hd0 hg] at hP
        exact br_f hg (nm_r (nI_1 i) (ih (i + 1) s x5 (by omega) (by omega) (Or.inr hse) hP n (by omega)))
theorem ig_xps {post : Int32 → Prop} {r m nn : Nat} (hr : r < 12) (hm : 1 ≤ m) (hm2 : m ≤ 10) (hR : RL r = nI m) (hnn : nn ≤ 6) (hN : ∀ j, ∃ m, m ≤ 8 ∧ NL j = nI m) (h9 : ¬ G (r * 10 + m - 1) = 9) (h1 : ig_al G L NL nn (ig_cp G (r * 10 + m) (m + 1) (r * 10)) 0 → post 1) (h0 : ¬ ig_al G L NL nn (ig_cp G (r * 10 + m) (m + 1) (r * 10)) 0 → post 0) : wpX_partsFit post (bl, rc, nc, B, G, RL, M, L, NL) (nI r) (nI nn) := by
  have h3 : nI (r * 10) + RL (nI r).toNatClampNeg = nI (r * 10 + m) := by rw [nI_clamp (by omega), hR]; exact nI_add _ _
  refine nm_r (pk_mul r 10) ⟨vp_in_nI hr (by omega), nm_r h3 ⟨m + 2, ig_x21 (by omega) hnn hN h9 h1 h0 (m + 1) (r * 10) (r * 10) 1 (by omega) (Nat.le_refl _) (Or.inr (by omega)) ?_ _ (by omega)⟩⟩
  exact ig_b1a
theorem ig_x17 {post : Int32 → Prop} {P : Prop} {e : Nat} (he : e ≤ 120) (h1 : P → post 1) (h0 : ¬ P → post 0) : ∀ d i, i + d = e → (P ↔ ∃ j, i ≤ j ∧ j < e ∧ G j = 9) → ∀ n, d < n → wX_hasSlash_17 post (nI e) bl rc nc B G RL M L NL n (nI i) := by
  intro d
  induction d with
  | zero =>
    intro i hi hP n hd
    obtain ⟨n, rfl⟩ : ∃ m, n = m + 1 := ⟨n - 1, by omega⟩
    refine br_t (nI_le (by omega) (by omega)) (h0 fun p => ?_)
    obtain ⟨j, h2, h3, _⟩ := hP.mp p
    omega
  | succ d ih =>
    intro i hi hP n hd
    obtain ⟨n, rfl⟩ : ∃ m, n = m + 1 := ⟨n - 1, by omega⟩
    refine br_f (nI_ge (by omega) (by omega)) ⟨vp_in_nI (by omega) (by omega), ?_⟩
    have hcl : (nI i).toNatClampNeg = i := nI_clamp (by omega)
    rw [hcl]
    by_cases hg : G i = 9
    · exact br_t hg (h1 (hP.mpr ⟨i, Nat.le_refl i, by omega, hg⟩))
    · refine br_f hg (nm_r (nI_1 i) (ih (i + 1) (by omega) (hP.trans ⟨?_, ?_⟩) n (by omega)))
      · rintro ⟨j, h2, h3, h4⟩
        by_cases e1 : i = j
        · subst e1
          exact absurd h4 hg
        · exact ⟨j, by omega, h3, h4⟩
      · rintro ⟨j, h2, h3, h4⟩
        exact ⟨j, by omega, h3, h4⟩
theorem ig_xhs {post : Int32 → Prop} {r m : Nat} (hr : r < 12) (hm2 : m ≤ 10) (hR : RL r = nI m) (h1 : (∃ j, r * 10 ≤ j ∧ j < r * 10 + m ∧ G j = 9) → post 1) (h0 : ¬ (∃ j, r * 10 ≤ j ∧ j < r * 10 + m ∧ G j = 9) → post 0) : wpX_hasSlash post (bl, rc, nc, B, G, RL, M, L, NL) (nI r) := by
  have h3 : nI (r * 10) + RL (nI r).toNatClampNeg = nI (r * 10 + m) := by rw [nI_clamp (by omega), hR]; exact nI_add _ _
  exact nm_r (pk_mul r 10) ⟨vp_in_nI hr (by omega), nm_r h3 ⟨m + 1, ig_x17 (by omega) h1 h0 m (r * 10) (by omega) Iff.rfl _ (by omega)⟩⟩
end
