-- the reference's walks against the picture
def ig_hd (ls : List (Nat × Nat)) (PF PT : Nat → Int32) : Prop := ∀ j s t, ls[j]? = some (s, t) → PF j = nI s ∧ PT j = nI t
theorem ig_hd1 {ls : List (Nat × Nat)} {PF PT : Nat → Int32} {s t : Nat} (h : ig_hd ls PF PT) : ig_hd (ls ++ [(s, t)]) (upd PF ls.length (nI s)) (upd PT ls.length (nI t)) := by
  intro j a b hj
  rcases Nat.lt_or_ge j ls.length with hl | hl
  · rw [List.getElem?_append_left hl] at hj
    rw [pk_un (by omega), pk_un (by omega)]
    exact h j a b hj
  · obtain ⟨i, rfl⟩ : ∃ i, j = ls.length + i := ⟨j - ls.length, by omega⟩
    rw [List.getElem?_append_right (by omega), Nat.add_sub_cancel_left] at hj
    cases i with
    | zero =>
      simp at hj
      rw [Nat.add_zero, pk_us, pk_us, hj.1, hj.2]
      exact ⟨rfl, rfl⟩
    | succ i => simp at hj
def ig_is (x : Int32) (P : Prop) : Prop := (P ∧ x = 1) ∨ (¬ P ∧ x = 0)
theorem ig_ix0 (p q : Nat) : nI p * 11 + nI q = nI (p * 11 + q) := by
  rw [show (11 : Int32) = nI 11 from rfl, pk_mul, nI_add]
theorem ig_ix1 (p q : Nat) : (nI p + 1) * 11 + nI q = nI ((p + 1) * 11 + q) := by
  rw [nI_1, ig_ix0]
theorem ig_vn1 : vp_nar .boolean 1 = 1 := rfl
theorem ig_vn0 : vp_nar .boolean 0 = 0 := rfl
theorem ig_isn {x : Int32} {P : Prop} (h : ig_is x P) : vp_nar .boolean x = x := by
  rcases h with ⟨_, e⟩ | ⟨_, e⟩
  · rw [e]; exact ig_vn1
  · rw [e]; exact ig_vn0
theorem ig_isw {x : Int32} {P : Prop} (h : ig_is x P) : narrow .boolean (.int x) = .int x := by
  rcases h with ⟨_, e⟩ | ⟨_, e⟩
  · rw [e]; exact ig_nar1
  · rw [e]; exact ig_nar0
section
variable {bl rc nc pc : Int32} {B G RL K L NL PF PT RF LF : Nat → Int32}
theorem ig_y28 {post : SY → Prop} {e : Nat} (he : e ≤ 120) : ∀ d i s ls PF PT, i + d = e + 1 → ls.length + d ≤ 11 → ig_hd ls PF PT → (∀ PF' PT', ig_hd (ls ++ ig_cp G e d s) PF' PT' → post (bl, rc, nc, nI (ls ++ ig_cp G e d s).length, B, G, RL, K, L, NL, PF', PT', RF, LF)) → ∀ n, d < n → wY_cut_28 post (nI e) bl rc nc n (nI s) (nI i) (nI ls.length) B G RL K L NL PF PT RF LF := by
  intro d
  induction d with
  | zero =>
    intro i s ls PF PT hi hl hh hp n hd
    obtain ⟨n, rfl⟩ : ∃ m, n = m + 1 := ⟨n - 1, by omega⟩
    have hp2 := hp PF PT (by rw [ig_cp, List.append_nil]; exact hh)
    rw [ig_cp, List.append_nil] at hp2
    exact br_t (nI_lt (by omega) (by omega)) hp2
  | succ d ih =>
    intro i s ls PF PT hi hl hh hp n hd
    obtain ⟨n, rfl⟩ : ∃ m, n = m + 1 := ⟨n - 1, by omega⟩
    refine br_f (nI_nlt (by omega) (by omega)) ?_
    have hcut : (d = 0 ∨ G i = 9) → wY_cut_52 post (wY_cut_28 post (nI e) bl rc nc n) (nI s) (nI e) (nI i) bl rc nc (nI ls.length) B G RL K L NL PF PT RF LF := by
      intro hc
      rw [ig_cpc (i := i) (by omega) hc, List.append_cons] at hp
      have hcl : (nI ls.length).toNatClampNeg = ls.length := nI_clamp (by omega)
      have hin : vp_in (nI ls.length) 11 := vp_in_nI (by omega) (by omega)
      have hlen : nI ls.length + 1 = nI (ls ++ [(s, i)]).length := by rw [nI_1, List.length_append]; rfl
      refine ⟨hin, nm_r (e' := upd PF ls.length (nI s)) (by rw [hcl]) ⟨hin, nm_r (e' := upd PT ls.length (nI i)) (by rw [hcl]) (nm_r hlen (nm_r (nI_1 i) (nm_r (nI_1 i) ?_)))⟩⟩
      exact ih (i + 1) (i + 1) (ls ++ [(s, i)]) _ _ (by omega) (by rw [List.length_append]; simp; omega) (ig_hd1 hh) hp n (by omega)
    rcases Nat.eq_zero_or_pos d with hd0 | hd0
    · have e1 : i = e := by omega
      exact br_t (congrArg nI e1) (hcut (Or.inl hd0))
    · refine br_f (fun h => ?_) ⟨vp_in_nI (by omega) (by omega), ?_⟩
      · have := (nI_eq (by omega) (by omega)).mp h
        omega
      · have hcl : (nI i).toNatClampNeg = i := nI_clamp (by omega)
        rw [hcl]
        by_cases hg : G i = 9
        · exact br_t hg (hcut (Or.inr hg))
        · rw [ig_cpn (i := i) (by omega) hd0 hg] at hp
          exact br_f hg (nm_r (nI_1 i) (ih (i + 1) s ls PF PT (by omega) (by omega) hh hp n (by omega)))
theorem ig_ycut {post : SY → Prop} {r m : Nat} (hr : r < 12) (hm : m ≤ 10) (hR : RL r = nI m) (hp : ∀ PF' PT', ig_hd (ig_cp G (r * 10 + m) (m + 1) (r * 10)) PF' PT' → post (bl, rc, nc, nI (ig_cp G (r * 10 + m) (m + 1) (r * 10)).length, B, G, RL, K, L, NL, PF', PT', RF, LF)) : wpY_cut post (bl, rc, nc, pc, B, G, RL, K, L, NL, PF, PT, RF, LF) (nI r) := by
  have h0 : nI r * 10 = nI (r * 10) := pk_mul r 10
  have h3 : nI r * 10 + RL (nI r).toNatClampNeg = nI (r * 10 + m) := by rw [nI_clamp (by omega), hR, h0]; exact nI_add _ _
  refine nm_r h0 ⟨vp_in_nI hr (by omega), nm_r h3 (nm_r h0 ⟨m + 2, ?_⟩)⟩
  refine ig_y28 (ls := []) (by omega) (m + 1) (r * 10) (r * 10) PF PT (by omega) (by simp; omega) ?_ hp _ (by omega)
  intro j s t hj
  simp at hj
theorem ig_y77 {post : Int32 → SY → Prop} {J25 J34 : Int32 → (Nat → Int32) → (Nat → Int32) → (Nat → Int32) → (Nat → Int32) → (Nat → Int32) → (Nat → Int32) → (Nat → Int32) → (Nat → Int32) → (Nat → Int32) → (Nat → Int32) → Prop} {x1 c z0 : Int32} {nm len sz p q : Nat} {Fn Fp : Nat → Prop} (hnm : nm < 6) (hlen : len ≤ 10) (hp : p ≤ len) (hsz : sz ≤ 8) (hq : q ≤ sz) (hz : (z0 = 0 ∧ q = sz) ∨ (z0 = 1 ∧ q < sz))
    (hw : ∀ x9, ig_is x9 (Fp q) → wY_partFits_217 post J25 J34 x1 (nI nm) (nI len) (nI sz) (nI p) (nI q) x9 bl rc nc pc B G RL K L NL PF PT RF LF)
    (hn : p < len → ∀ q', q' ≤ sz → ig_is (RF ((p + 1) * 11 + q')) (Fn q')) (hr : ∀ q', q < q' → q' ≤ sz → ig_is (RF (p * 11 + q')) (Fp q'))
    (he : p = len → (Fp q ↔ q = sz)) (h7 : p < len → c = 7 → (Fp q ↔ Fn q ∨ (q < sz ∧ Fp (q + 1)))) (hc : p < len → ¬ c = 7 → (Fp q ↔ q < sz ∧ (c = 8 ∨ c = L (nm * 8 + q)) ∧ Fn (q + 1))) :
    wY_partFits_77 post J25 J34 x1 (nI nm) (nI len) (nI sz) (nI p) (nI q) c z0 bl rc nc pc B G RL K L NL PF PT RF LF := by
  by_cases hpl : p = len
  · refine br_t (congrArg nI hpl) ?_
    rcases hz with ⟨rfl, hq⟩ | ⟨rfl, hq⟩
    · exact br_t rfl (hw 1 (Or.inl ⟨(he hpl).mpr hq, rfl⟩))
    · refine br_f (by decide) (hw 0 (Or.inr ⟨fun h => ?_, rfl⟩))
      have := (he hpl).mp h
      omega
  · have hlt : p < len := by omega
    refine br_f (fun h => hpl ((nI_eq (by omega) (by omega)).mp h)) ?_
    by_cases hc7 : c = 7
    · have hc1 : ((nI p + 1) * 11 + nI q).toNatClampNeg = (p + 1) * 11 + q := by rw [ig_ix1]; exact nI_clamp (by omega)
      refine br_t hc7 ⟨by rw [ig_ix1]; exact vp_in_nI (by omega) (by omega), ?_⟩
      rw [hc1]
      rcases hn hlt q hq with ⟨hf, e⟩ | ⟨hf, e⟩
      · exact br_f (by rw [e]; decide) (hw 1 (Or.inl ⟨(h7 hlt hc7).mpr (Or.inl hf), rfl⟩))
      · refine br_t e ?_
        rcases hz with ⟨rfl, hq⟩ | ⟨rfl, hq⟩
        · refine br_t rfl (hw 0 (Or.inr ⟨fun h => ?_, rfl⟩))
          rcases (h7 hlt hc7).mp h with h2 | h2
          · exact hf h2
          · omega
        · have hi : nI p * 11 + nI q + 1 = nI (p * 11 + (q + 1)) := by rw [ig_ix0, nI_1]; rfl
          have hc2 : (nI p * 11 + nI q + 1).toNatClampNeg = p * 11 + (q + 1) := by rw [hi]; exact nI_clamp (by omega)
          refine br_f (by decide) ⟨by rw [hi]; exact vp_in_nI (by omega) (by omega), ?_⟩
          rw [hc2]
          rcases hr (q + 1) (by omega) (by omega) with ⟨hg, e2⟩ | ⟨hg, e2⟩
          · exact br_f (by rw [e2]; decide) (hw 1 (Or.inl ⟨(h7 hlt hc7).mpr (Or.inr ⟨hq, hg⟩), rfl⟩))
          · refine br_t e2 (hw 0 (Or.inr ⟨fun h => ?_, rfl⟩))
            rcases (h7 hlt hc7).mp h with h2 | h2
            · exact hf h2
            · exact hg h2.2
    · refine br_f hc7 ?_
      have hi := hc hlt hc7
      rcases hz with ⟨rfl, hq⟩ | ⟨rfl, hq⟩
      · refine br_t rfl (hw 0 (Or.inr ⟨fun h => ?_, rfl⟩))
        have := (hi.mp h).1
        omega
      · refine br_f (by decide) ?_
        have h190 : (c = 8 ∨ c = L (nm * 8 + q)) → wY_partFits_190 post J25 J34 x1 (nI nm) (nI len) (nI sz) (nI p) (nI q) bl rc nc pc B G RL K L NL PF PT RF LF := by
          intro hm
          have hj : (nI p + 1) * 11 + nI q + 1 = nI ((p + 1) * 11 + (q + 1)) := by rw [ig_ix1, nI_1]; rfl
          have hc2 : ((nI p + 1) * 11 + nI q + 1).toNatClampNeg = (p + 1) * 11 + (q + 1) := by rw [hj]; exact nI_clamp (by omega)
          refine ⟨by rw [hj]; exact vp_in_nI (by omega) (by omega), ?_⟩
          rw [hc2]
          rcases hn hlt (q + 1) (by omega) with ⟨hf, e⟩ | ⟨hf, e⟩
          · exact br_f (by rw [e]; decide) (hw 1 (Or.inl ⟨hi.mpr ⟨hq, hm, hf⟩, rfl⟩))
          · exact br_t e (hw 0 (Or.inr ⟨fun h => hf (hi.mp h).2.2, rfl⟩))
        by_cases h8 : c = 8
        · exact br_t h8 (h190 (Or.inl h8))
        · have hj : nI nm * 8 + nI q = nI (nm * 8 + q) := by rw [show (8 : Int32) = nI 8 from rfl, pk_mul, nI_add]
          have hc2 : (nI nm * 8 + nI q).toNatClampNeg = nm * 8 + q := by rw [hj]; exact nI_clamp (by omega)
          refine br_f h8 ⟨by rw [hj]; exact vp_in_nI (by omega) (by omega), ?_⟩
          rw [hc2]
          by_cases hl : c = L (nm * 8 + q)
          · exact br_t hl (h190 (Or.inr hl))
          · refine br_f hl (hw 0 (Or.inr ⟨fun h => ?_, rfl⟩))
            rcases (hi.mp h).2.1 with h2 | h2
            · exact h8 h2
            · exact hl h2
theorem ig_rowU {T : Nat → Int32} {p q sz : Nat} {x : Int32} {F : Nat → Prop} (hx : ig_is x (F q)) (h : ∀ q', q < q' → q' ≤ sz → ig_is (T (p * 11 + q')) (F q')) : ∀ q', q ≤ q' → q' ≤ sz → ig_is (upd T (p * 11 + q) x (p * 11 + q')) (F q') := by
  intro q' h1 h2
  by_cases e : q' = q
  · subst e
    rw [pk_us]
    exact hx
  · rw [pk_un (by omega)]
    exact h q' (by omega) h2
theorem ig_y34 {post : Int32 → SY → Prop} {J25 : Int32 → (Nat → Int32) → (Nat → Int32) → (Nat → Int32) → (Nat → Int32) → (Nat → Int32) → (Nat → Int32) → (Nat → Int32) → (Nat → Int32) → (Nat → Int32) → (Nat → Int32) → Prop} {nm len sz p pt s t : Nat} (hnm : nm < 6) (hlen : len ≤ 10) (hp : p ≤ len) (hsz : sz ≤ 8) (hpt : pt < 11) (hPF : PF pt = nI s) (hst : s + len = t) (ht : t ≤ 120) : ∀ k RF, k ≤ sz + 1 →
    (p < len → ∀ q', q' ≤ sz → ig_is (RF ((p + 1) * 11 + q')) (ig_ft G (fun k => L (nm * 8 + k)) sz t (len - (p + 1)) q')) → (∀ q', k ≤ q' → q' ≤ sz → ig_is (RF (p * 11 + q')) (ig_ft G (fun k => L (nm * 8 + k)) sz t (len - p) q')) →
    (∀ RF', (∀ q', q' ≤ sz → ig_is (RF' (p * 11 + q')) (ig_ft G (fun k => L (nm * 8 + k)) sz t (len - p) q')) → J25 (nI p + (-1)) B G RL K L NL PF PT RF' LF) →
    ∀ n, k < n → wY_partFits_34 post J25 (nI pt) (nI nm) (nI len) (nI sz) (nI p) bl rc nc pc n (nI k + (-1)) B G RL K L NL PF PT RF LF := by
  intro k
  induction k with
  | zero =>
    intro RF hk hn hr hJ n hd
    obtain ⟨n, rfl⟩ : ∃ m, n = m + 1 := ⟨n - 1, by omega⟩
    exact br_t (by decide) (nm_e (hJ RF fun q' h => hr q' (Nat.zero_le _) h))
  | succ q ih =>
    intro RF hk hn hr hJ n hd
    obtain ⟨n, rfl⟩ : ∃ m, n = m + 1 := ⟨n - 1, by omega⟩
    rw [pk_m1]
    refine br_f (nI_pos (by omega)) ?_
    have hw : ∀ x9, ig_is x9 (ig_ft G (fun k => L (nm * 8 + k)) sz t (len - p) q) → wY_partFits_217 post J25 (wY_partFits_34 post J25 (nI pt) (nI nm) (nI len) (nI sz) (nI p) bl rc nc pc n) (nI pt) (nI nm) (nI len) (nI sz) (nI p) (nI q) x9 bl rc nc pc B G RL K L NL PF PT RF LF := by
      intro x9 hx
      have hc1 : (nI p * 11 + nI q).toNatClampNeg = p * 11 + q := by rw [ig_ix0]; exact nI_clamp (by omega)
      refine ⟨by rw [ig_ix0]; exact vp_in_nI (by omega) (by omega), nm_r (e' := upd RF (p * 11 + q) x9) (by rw [hc1, ig_isn hx]) (nm_e ?_)⟩
      refine ih _ (by omega) (fun hlt q' h2 => ?_) (ig_rowU hx fun q' h1 h2 => hr q' (by omega) h2) hJ n (by omega)
      rw [pk_un (by omega)]
      exact hn hlt q' h2
    have h77 : ∀ c, (p < len → c = G (s + p)) → wY_partFits_63 post J25 (wY_partFits_34 post J25 (nI pt) (nI nm) (nI len) (nI sz) (nI p) bl rc nc pc n) (nI pt) (nI nm) (nI len) (nI sz) (nI p) (nI q) c bl rc nc pc B G RL K L NL PF PT RF LF := by
      intro c hc
      have h2 : ∀ z0, ((z0 = 0 ∧ q = sz) ∨ (z0 = 1 ∧ q < sz)) → wY_partFits_77 post J25 (wY_partFits_34 post J25 (nI pt) (nI nm) (nI len) (nI sz) (nI p) bl rc nc pc n) (nI pt) (nI nm) (nI len) (nI sz) (nI p) (nI q) c z0 bl rc nc pc B G RL K L NL PF PT RF LF := by
        intro z0 hz
        refine ig_y77 (Fn := ig_ft G (fun k => L (nm * 8 + k)) sz t (len - (p + 1))) (Fp := ig_ft G (fun k => L (nm * 8 + k)) sz t (len - p)) hnm hlen hp hsz (by omega) hz hw hn (fun q' h1 h2 => hr q' (by omega) h2) ?_ ?_ ?_
        · intro e
          have e2 : len - p = 0 := by omega
          rw [e2]
          exact Iff.rfl
        · intro hlt h7
          rw [hc hlt] at h7
          have e2 : len - p = len - (p + 1) + 1 := by omega
          rw [e2]
          exact ig_sy (ig_ft7 (i := s + p) (by omega) h7) (by omega)
        · intro hlt h7
          rw [hc hlt] at h7 ⊢
          have e2 : len - p = len - (p + 1) + 1 := by omega
          rw [e2]
          exact ig_ftn (i := s + p) (by omega) h7 q
      by_cases hq : sz ≤ q
      · exact br_t (nI_le hq (by omega)) (h2 0 (Or.inl ⟨rfl, by omega⟩))
      · exact br_f (nI_ge (by omega) (by omega)) (h2 1 (Or.inr ⟨rfl, by omega⟩))
    by_cases hpl : len ≤ p
    · exact br_t (nI_le hpl (by omega)) (h77 0 fun h => by omega)
    · have hcl : (nI pt).toNatClampNeg = pt := nI_clamp (by omega)
      refine br_f (nI_ge (by omega) (by omega)) ⟨vp_in_nI hpt (by omega), ?_⟩
      rw [hcl, hPF, nI_add s p, nI_clamp (n := s + p) (by omega)]
      exact ⟨vp_in_nI (by omega) (by omega), h77 _ fun _ => rfl⟩
theorem ig_y25 {post : Int32 → SY → Prop} {nm len sz pt s t : Nat} (hnm : nm < 6) (hlen : len ≤ 10) (hsz : sz ≤ 8) (hpt : pt < 11) (hPF : PF pt = nI s) (hst : s + len = t) (ht : t ≤ 120) (h1 : ∀ RF', ig_ft G (fun k => L (nm * 8 + k)) sz t len 0 → post 1 (bl, rc, nc, pc, B, G, RL, K, L, NL, PF, PT, RF', LF)) (h0 : ∀ RF', ¬ ig_ft G (fun k => L (nm * 8 + k)) sz t len 0 → post 0 (bl, rc, nc, pc, B, G, RL, K, L, NL, PF, PT, RF', LF)) : ∀ k RF, k ≤ len + 1 →
    (k ≤ len → ∀ q', q' ≤ sz → ig_is (RF (k * 11 + q')) (ig_ft G (fun k => L (nm * 8 + k)) sz t (len - k) q')) →
    ∀ n, k < n → wY_partFits_25 post (nI pt) (nI nm) (nI len) (nI sz) bl rc nc pc n (nI k + (-1)) B G RL K L NL PF PT RF LF := by
  intro k
  induction k with
  | zero =>
    intro RF hk hn n hd
    obtain ⟨n, rfl⟩ : ∃ m, n = m + 1 := ⟨n - 1, by omega⟩
    have h := hn (Nat.zero_le _) 0 (Nat.zero_le _)
    have h : ig_is (RF 0) (ig_ft G (fun k => L (nm * 8 + k)) sz t len 0) := h
    refine br_t (by decide) ⟨ig_isw h, ?_⟩
    rcases h with ⟨h, e⟩ | ⟨h, e⟩
    · rw [e]; exact h1 RF h
    · rw [e]; exact h0 RF h
  | succ p ih =>
    intro RF hk hn n hd
    obtain ⟨n, rfl⟩ : ∃ m, n = m + 1 := ⟨n - 1, by omega⟩
    rw [pk_m1]
    refine br_f (nI_pos (by omega)) ⟨sz + 2, ?_⟩
    have key := fun J hJ => ig_y34 (post := post) (J25 := J) (bl := bl) (rc := rc) (nc := nc) (pc := pc) (B := B) (G := G) (RL := RL) (K := K) (L := L) (NL := NL) (PF := PF) (PT := PT) (LF := LF) hnm hlen (by omega : p ≤ len) hsz hpt hPF hst ht (sz + 1) RF (Nat.le_refl _) (fun hlt => hn (by omega)) (fun q' h3 h4 => by omega) hJ (sz + 2) (by omega)
    rw [pk_m1 sz] at key
    exact key _ fun RF' hr => ih RF' (by omega) (fun _ => hr) n (by omega)
theorem ig_ypf {post : Int32 → SY → Prop} {nm pt s t : Nat} (hpt : pt < 11) (hPF : PF pt = nI s) (hPT : PT pt = nI t) (hst : s ≤ t) (hst2 : t ≤ s + 10) (ht : t ≤ 120) (hnm : nm < 6) (hN : ∀ j, ∃ m, m ≤ 8 ∧ NL j = nI m) (h1 : ∀ RF', ig_pf G L NL s t nm → post 1 (bl, rc, nc, pc, B, G, RL, K, L, NL, PF, PT, RF', LF)) (h0 : ∀ RF', ¬ ig_pf G L NL s t nm → post 0 (bl, rc, nc, pc, B, G, RL, K, L, NL, PF, PT, RF', LF)) : wpY_partFits post (bl, rc, nc, pc, B, G, RL, K, L, NL, PF, PT, RF, LF) (nI pt) (nI nm) := by
  obtain ⟨sz, hs, hz⟩ := hN nm
  have hz2 : (NL nm).toNatClampNeg = sz := by rw [hz]; exact nI_clamp (by omega)
  have hz3 : NL (nI nm).toNatClampNeg = nI sz := by rw [nI_clamp (by omega)]; exact hz
  have hd : PT (nI pt).toNatClampNeg - PF (nI pt).toNatClampNeg = nI (t - s) := by rw [nI_clamp (by omega), hPF, hPT]; exact pk_sub hst
  unfold ig_pf at h1 h0
  rw [hz2] at h1 h0
  have hin : vp_in (nI pt) 11 := vp_in_nI hpt (by omega)
  refine ⟨hin, hin, nm_r hd ⟨vp_in_nI hnm (by omega), nm_r hz3 ⟨t - s + 2, ?_⟩⟩⟩
  have key := ig_y25 hnm (by omega) hs hpt hPF (by omega : s + (t - s) = t) ht h1 h0 (t - s + 1) RF (Nat.le_refl _) (fun h => by omega) (t - s + 2) (by omega)
  rw [pk_m1] at key
  exact key
end
