-- the list of a good rule's parts
theorem ig_cpE {G : Nat → Int32} {e : Nat} (h9 : ¬ G (e - 1) = 9) : ∀ d i s, i + d = e + 1 → s ≤ i → (d = 0 ∨ s < e) → ∀ p, p ∈ ig_cp G e d s → s ≤ p.1 ∧ p.1 ≤ p.2 ∧ p.2 ≤ e ∧ p.1 < e := by
  intro d
  induction d with
  | zero =>
    intro i s _ _ _ p hp
    rw [ig_cp] at hp
    cases hp
  | succ d ih =>
    intro i s hi hs he p hp
    by_cases hc : d = 0 ∨ G i = 9
    · rw [ig_cpc (i := i) (by omega) hc, List.mem_cons] at hp
      have hs' : d = 0 ∨ i + 1 < e := by
        rcases Nat.eq_zero_or_pos d with h | h
        · exact Or.inl h
        · rcases hc with h' | h'
          · omega
          · refine Or.inr ?_
            rcases Nat.lt_or_ge (i + 1) e with h2 | h2
            · exact h2
            · have e1 : i = e - 1 := by omega
              rw [e1] at h'
              exact absurd h' h9
      rcases hp with rfl | hp
      · exact ⟨Nat.le_refl s, hs, (by omega : i ≤ e), (by omega : s < e)⟩
      · have := ih (i + 1) (i + 1) (by omega) (Nat.le_refl _) hs' p hp
        omega
    · rw [ig_cpn (i := i) (by omega) (by omega) (fun h => hc (Or.inr h))] at hp
      have := ih (i + 1) s (by omega) (by omega) (Or.inr (by omega)) p hp
      omega
theorem ig_cpB {G : Nat → Int32} {r m : Nat} (hm : 1 ≤ m) (hm2 : m ≤ 10) (h9 : ¬ G (r * 10) = 9) : (ig_cp G (r * 10 + m) (m + 1) (r * 10)).length ≤ 10 := by
  rw [ig_cpn (i := r * 10) (by omega) (by omega) h9]
  have := ig_cpL (G := G) (e := r * 10 + m) m (r * 10)
  omega
def ig_lo (ls : List (Nat × Nat)) : Prop := ∀ j s t : Nat, ls[j]? = some (s, t) → s ≤ t ∧ t ≤ s + 10 ∧ t ≤ 120 ∧ s < 120
theorem ig_cpO {G : Nat → Int32} {r m : Nat} (hr : r < 12) (hm : 1 ≤ m) (hm2 : m ≤ 10) (h9 : ¬ G (r * 10 + m - 1) = 9) : ig_lo (ig_cp G (r * 10 + m) (m + 1) (r * 10)) := by
  intro j s t hj
  have := ig_cpE h9 (m + 1) (r * 10) (r * 10) (by omega) (Nat.le_refl _) (Or.inr (by omega)) (s, t) (List.mem_of_getElem? hj)
  omega
section
variable {bl rc nc : Int32} {B G RL K L NL PF PT RF LF : Nat → Int32}
theorem ig_yA25 {post : Int32 → SY → Prop} {J5 J11 : Int32 → Int32 → Int32 → Int32 → Int32 → (Nat → Int32) → (Nat → Int32) → (Nat → Int32) → (Nat → Int32) → (Nat → Int32) → (Nat → Int32) → (Nat → Int32) → (Nat → Int32) → (Nat → Int32) → (Nat → Int32) → Prop} {z0 : Int32} {nn pl p q s t : Nat} {Fn Fp : Nat → Prop} (hnn : nn ≤ 6) (hpl : pl ≤ 10) (hp : p ≤ pl) (hq : q ≤ nn) (hz : (z0 = 0 ∧ q = nn) ∨ (z0 = 1 ∧ q < nn)) (hN : ∀ j, ∃ m, m ≤ 8 ∧ NL j = nI m)
    (hpt : p < pl → PF p = nI s ∧ PT p = nI t ∧ s ≤ t ∧ t ≤ s + 10 ∧ t ≤ 120 ∧ s < 120)
    (hw : ∀ RF' x5, ig_is x5 (Fp q) → wY_allFit_147 post J5 J11 (nI nn) (nI p) (nI q) x5 bl rc nc (nI pl) B G RL K L NL PF PT RF' LF)
    (hn : p < pl → ∀ q', q' ≤ nn → ig_is (LF ((p + 1) * 11 + q')) (Fn q')) (hr : ∀ q', q < q' → q' ≤ nn → ig_is (LF (p * 11 + q')) (Fp q'))
    (he : p = pl → (Fp q ↔ q = nn)) (h7 : p < pl → G s = 10 → (Fp q ↔ Fn q ∨ (q < nn ∧ Fp (q + 1)))) (hc : p < pl → ¬ G s = 10 → (Fp q ↔ q < nn ∧ ig_pf G L NL s t q ∧ Fn (q + 1))) :
    wY_allFit_25 post J5 J11 (nI nn) (nI p) (nI q) z0 bl rc nc (nI pl) B G RL K L NL PF PT RF LF := by
  by_cases hpe : p = pl
  · refine br_t (congrArg nI hpe) ?_
    rcases hz with ⟨rfl, hq⟩ | ⟨rfl, hq⟩
    · exact br_t rfl (hw RF 1 (Or.inl ⟨(he hpe).mpr hq, rfl⟩))
    · refine br_f (by decide) (hw RF 0 (Or.inr ⟨fun h => ?_, rfl⟩))
      have := (he hpe).mp h
      omega
  · have hlt : p < pl := by omega
    obtain ⟨hPF, hPT, b1, b2, b3, b4⟩ := hpt hlt
    refine br_f (fun h => hpe ((nI_eq (by omega) (by omega)).mp h)) ⟨vp_in_nI (by omega) (by omega), ?_⟩
    have hcp : (nI p).toNatClampNeg = p := nI_clamp (by omega)
    have hcs : (nI s).toNatClampNeg = s := nI_clamp (by omega)
    rw [hcp, hPF, hcs]
    refine ⟨vp_in_nI b4 (by omega), ?_⟩
    by_cases hc7 : G s = 10
    · have hc1 : ((nI p + 1) * 11 + nI q).toNatClampNeg = (p + 1) * 11 + q := by rw [ig_ix1]; exact nI_clamp (by omega)
      refine br_t hc7 ⟨by rw [ig_ix1]; exact vp_in_nI (by omega) (by omega), ?_⟩
      rw [hc1]
      rcases hn hlt q hq with ⟨hf, e⟩ | ⟨hf, e⟩
      · exact br_f (by rw [e]; decide) (hw RF 1 (Or.inl ⟨(h7 hlt hc7).mpr (Or.inl hf), rfl⟩))
      · refine br_t e ?_
        rcases hz with ⟨rfl, hq⟩ | ⟨rfl, hq⟩
        · refine br_t rfl (hw RF 0 (Or.inr ⟨fun h => ?_, rfl⟩))
          rcases (h7 hlt hc7).mp h with h2 | h2
          · exact hf h2
          · omega
        · have hi : nI p * 11 + nI q + 1 = nI (p * 11 + (q + 1)) := by rw [ig_ix0, nI_1]; rfl
          have hc2 : (nI p * 11 + nI q + 1).toNatClampNeg = p * 11 + (q + 1) := by rw [hi]; exact nI_clamp (by omega)
          refine br_f (by decide) ⟨by rw [hi]; exact vp_in_nI (by omega) (by omega), ?_⟩
          rw [hc2]
          rcases hr (q + 1) (by omega) (by omega) with ⟨hg, e2⟩ | ⟨hg, e2⟩
          · exact br_f (by rw [e2]; decide) (hw RF 1 (Or.inl ⟨(h7 hlt hc7).mpr (Or.inr ⟨hq, hg⟩), rfl⟩))
          · refine br_t e2 (hw RF 0 (Or.inr ⟨fun h => ?_, rfl⟩))
            rcases (h7 hlt hc7).mp h with h2 | h2
            · exact hf h2
            · exact hg h2.2
    · refine br_f hc7 ?_
      have hi := hc hlt hc7
      rcases hz with ⟨rfl, hq⟩ | ⟨rfl, hq⟩
      · refine br_t rfl (hw RF 0 (Or.inr ⟨fun h => ?_, rfl⟩))
        have := (hi.mp h).1
        omega
      · have hj : (nI p + 1) * 11 + nI q + 1 = nI ((p + 1) * 11 + (q + 1)) := by rw [ig_ix1, nI_1]; rfl
        have hc2 : ((nI p + 1) * 11 + nI q + 1).toNatClampNeg = (p + 1) * 11 + (q + 1) := by rw [hj]; exact nI_clamp (by omega)
        refine br_f (by decide) ⟨by rw [hj]; exact vp_in_nI (by omega) (by omega), ?_⟩
        rw [hc2]
        rcases hn hlt (q + 1) (by omega) with ⟨hf, e⟩ | ⟨hf, e⟩
        · refine br_f (by rw [e]; decide) (ig_ypf (by omega) hPF hPT b1 b2 b3 (by omega) hN (fun RF' h => ?_) (fun RF' h => ?_))
          · exact hw RF' 1 (Or.inl ⟨hi.mpr ⟨hq, h, hf⟩, rfl⟩)
          · exact hw RF' 0 (Or.inr ⟨fun h2 => h (hi.mp h2).2.1, rfl⟩)
        · exact br_t e (hw RF 0 (Or.inr ⟨fun h => hf (hi.mp h).2.2, rfl⟩))
theorem ig_yA11 {post : Int32 → SY → Prop} {J5 : Int32 → Int32 → Int32 → Int32 → Int32 → (Nat → Int32) → (Nat → Int32) → (Nat → Int32) → (Nat → Int32) → (Nat → Int32) → (Nat → Int32) → (Nat → Int32) → (Nat → Int32) → (Nat → Int32) → (Nat → Int32) → Prop} {nn p : Nat} {ls : List (Nat × Nat)} (hnn : nn ≤ 6) (hpl : ls.length ≤ 10) (hp : p ≤ ls.length) (hh : ig_hd ls PF PT) (ho : ig_lo ls) (hN : ∀ j, ∃ m, m ≤ 8 ∧ NL j = nI m) : ∀ k RF LF, k ≤ nn + 1 →
    (p < ls.length → ∀ q', q' ≤ nn → ig_is (LF ((p + 1) * 11 + q')) (ig_al G L NL nn (ls.drop (p + 1)) q')) → (∀ q', k ≤ q' → q' ≤ nn → ig_is (LF (p * 11 + q')) (ig_al G L NL nn (ls.drop p) q')) →
    (∀ RF' LF', (∀ q', q' ≤ nn → ig_is (LF' (p * 11 + q')) (ig_al G L NL nn (ls.drop p) q')) → J5 (nI p + (-1)) bl rc nc (nI ls.length) B G RL K L NL PF PT RF' LF') →
    ∀ n, k < n → wY_allFit_11 post J5 (nI nn) (nI p) n (nI k + (-1)) bl rc nc (nI ls.length) B G RL K L NL PF PT RF LF := by
  intro k
  induction k with
  | zero =>
    intro RF LF hk hn hr hJ n hd
    obtain ⟨n, rfl⟩ : ∃ m, n = m + 1 := ⟨n - 1, by omega⟩
    exact br_t (by decide) (nm_e (hJ RF LF fun q' h => hr q' (Nat.zero_le _) h))
  | succ q ih =>
    intro RF LF hk hn hr hJ n hd
    obtain ⟨n, rfl⟩ : ∃ m, n = m + 1 := ⟨n - 1, by omega⟩
    rw [pk_m1]
    refine br_f (nI_pos (by omega)) ?_
    have hw : ∀ RF' x5, ig_is x5 (ig_al G L NL nn (ls.drop p) q) → wY_allFit_147 post J5 (wY_allFit_11 post J5 (nI nn) (nI p) n) (nI nn) (nI p) (nI q) x5 bl rc nc (nI ls.length) B G RL K L NL PF PT RF' LF := by
      intro RF' x5 hx
      have hc1 : (nI p * 11 + nI q).toNatClampNeg = p * 11 + q := by rw [ig_ix0]; exact nI_clamp (by omega)
      refine ⟨by rw [ig_ix0]; exact vp_in_nI (by omega) (by omega), nm_r (e' := upd LF (p * 11 + q) x5) (by rw [hc1, ig_isn hx]) (nm_e ?_)⟩
      refine ih RF' _ (by omega) (fun hlt q' h2 => ?_) (ig_rowU hx fun q' h1 h2 => hr q' (by omega) h2) hJ n (by omega)
      rw [pk_un (by omega)]
      exact hn hlt q' h2
    have h2 : ∀ z0, ((z0 = 0 ∧ q = nn) ∨ (z0 = 1 ∧ q < nn)) → wY_allFit_25 post J5 (wY_allFit_11 post J5 (nI nn) (nI p) n) (nI nn) (nI p) (nI q) z0 bl rc nc (nI ls.length) B G RL K L NL PF PT RF LF := by
      intro z0 hz
      have hx : ∃ s t, p < ls.length → (ls[p]? = some (s, t) ∧ ls.drop p = (s, t) :: ls.drop (p + 1)) := by
        by_cases hlt : p < ls.length
        · exact ⟨ls[p].1, ls[p].2, fun _ => ⟨List.getElem?_eq_getElem hlt, List.drop_eq_getElem_cons hlt⟩⟩
        · exact ⟨0, 0, fun h => absurd h hlt⟩
      obtain ⟨s, t, hst⟩ := hx
      refine ig_yA25 (s := s) (t := t) (Fn := ig_al G L NL nn (ls.drop (p + 1))) (Fp := ig_al G L NL nn (ls.drop p)) hnn hpl hp (by omega) hz hN (fun hlt => ?_) hw hn (fun q' h1 h2 => hr q' (by omega) h2) ?_ ?_ ?_
      · have h3 := (hst hlt).1
        exact ⟨(hh p s t h3).1, (hh p s t h3).2, ho p s t h3⟩
      · intro e
        rw [e, List.drop_length]
        exact Iff.rfl
      · intro hlt h7
        rw [(hst hlt).2]
        exact ig_sy (ig_al7 h7) (by omega)
      · intro hlt h7
        rw [(hst hlt).2]
        exact ig_aln h7 q
    by_cases hq : nn ≤ q
    · exact br_t (nI_le hq (by omega)) (h2 0 (Or.inl ⟨rfl, by omega⟩))
    · exact br_f (nI_ge (by omega) (by omega)) (h2 1 (Or.inr ⟨rfl, by omega⟩))
theorem ig_yA5 {post : Int32 → SY → Prop} {nn : Nat} {ls : List (Nat × Nat)} (hnn : nn ≤ 6) (hpl : ls.length ≤ 10) (hh : ig_hd ls PF PT) (ho : ig_lo ls) (hN : ∀ j, ∃ m, m ≤ 8 ∧ NL j = nI m) (h1 : ∀ RF' LF', ig_al G L NL nn ls 0 → post 1 (bl, rc, nc, nI ls.length, B, G, RL, K, L, NL, PF, PT, RF', LF')) (h0 : ∀ RF' LF', ¬ ig_al G L NL nn ls 0 → post 0 (bl, rc, nc, nI ls.length, B, G, RL, K, L, NL, PF, PT, RF', LF')) : ∀ k RF LF, k ≤ ls.length + 1 →
    (k ≤ ls.length → ∀ q', q' ≤ nn → ig_is (LF (k * 11 + q')) (ig_al G L NL nn (ls.drop k) q')) →
    ∀ n, k < n → wY_allFit_5 post (nI nn) n (nI k + (-1)) bl rc nc (nI ls.length) B G RL K L NL PF PT RF LF := by
  intro k
  induction k with
  | zero =>
    intro RF LF hk hn n hd
    obtain ⟨n, rfl⟩ : ∃ m, n = m + 1 := ⟨n - 1, by omega⟩
    have h := hn (Nat.zero_le _) 0 (Nat.zero_le _)
    have h : ig_is (LF 0) (ig_al G L NL nn ls 0) := h
    refine br_t (by decide) ⟨ig_isw h, ?_⟩
    rcases h with ⟨h, e⟩ | ⟨h, e⟩
    · rw [e]; exact h1 RF LF h
    · rw [e]; exact h0 RF LF h
  | succ p ih =>
    intro RF LF hk hn n hd
    obtain ⟨n, rfl⟩ : ∃ m, n = m + 1 := ⟨n - 1, by omega⟩
    rw [pk_m1]
    refine br_f (nI_pos (by omega)) ⟨nn + 2, ?_⟩
    have key := fun J hJ => ig_yA11 (post := post) (J5 := J) (bl := bl) (rc := rc) (nc := nc) (B := B) (G := G) (RL := RL) (K := K) (L := L) (NL := NL) (PF := PF) (PT := PT) hnn hpl (by omega : p ≤ ls.length) hh ho hN (nn + 1) RF LF (Nat.le_refl _) (fun hlt => hn (by omega)) (fun q' h3 h4 => by omega) hJ (nn + 2) (by omega)
    rw [pk_m1 nn] at key
    exact key _ fun RF' LF' hr => ih RF' LF' (by omega) (fun _ => hr) n (by omega)
theorem ig_yal {post : Int32 → SY → Prop} {nn : Nat} {ls : List (Nat × Nat)} (hnn : nn ≤ 6) (hpl : ls.length ≤ 10) (hh : ig_hd ls PF PT) (ho : ig_lo ls) (hN : ∀ j, ∃ m, m ≤ 8 ∧ NL j = nI m) (h1 : ∀ RF' LF', ig_al G L NL nn ls 0 → post 1 (bl, rc, nc, nI ls.length, B, G, RL, K, L, NL, PF, PT, RF', LF')) (h0 : ∀ RF' LF', ¬ ig_al G L NL nn ls 0 → post 0 (bl, rc, nc, nI ls.length, B, G, RL, K, L, NL, PF, PT, RF', LF')) : wpY_allFit post (bl, rc, nc, nI ls.length, B, G, RL, K, L, NL, PF, PT, RF, LF) (nI nn) := by
  have key := ig_yA5 (bl := bl) (rc := rc) (nc := nc) (B := B) (RL := RL) (K := K) hnn hpl hh ho hN h1 h0 (ls.length + 1) RF LF (Nat.le_refl _) (fun h => by omega) (ls.length + 2) (by omega)
  rw [pk_m1] at key
  exact ⟨_, key⟩
end
