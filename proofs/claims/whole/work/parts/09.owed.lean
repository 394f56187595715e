/-- both sides hold the same buffer, rules and names; the reference's marks are the component's three low bits; its tables are free -/
def i_Rel (_ : Nat) (u : SX) (v : SY) : Prop := ∃ (bl rc nc : Nat) (B G RL M L NL : Nat → Int32) (pc : Int32) (PF PT RF LF : Nat → Int32), u = (nI bl, nI rc, nI nc, B, G, RL, M, L, NL) ∧ v = (nI bl, nI rc, nI nc, pc, B, G, RL, (fun i => M i &&& 7), L, NL, PF, PT, RF, LF) ∧ bl ≤ 10 ∧ rc ≤ 12 ∧ 1 ≤ nc ∧ nc ≤ 6 ∧ ig_ru G RL rc ∧ (∀ j, ∃ m, m ≤ 8 ∧ NL j = nI m)
theorem ig_R {k bl rc nc : Nat} {B G RL M L NL : Nat → Int32} {pc : Int32} {PF PT RF LF : Nat → Int32} (h1 : bl ≤ 10) (h2 : rc ≤ 12) (h3 : 1 ≤ nc) (h4 : nc ≤ 6) (h5 : ig_ru G RL rc) (h6 : ∀ j, ∃ m, m ≤ 8 ∧ NL j = nI m) : i_Rel k (nI bl, nI rc, nI nc, B, G, RL, M, L, NL) (nI bl, nI rc, nI nc, pc, B, G, RL, (fun i => M i &&& 7), L, NL, PF, PT, RF, LF) :=
  ⟨bl, rc, nc, B, G, RL, M, L, NL, pc, PF, PT, RF, LF, rfl, rfl, h1, h2, h3, h4, h5, h6⟩
theorem ig_nl {NL : Nat → Int32} {j m : Nat} (h : ∀ j, ∃ m, m ≤ 8 ∧ NL j = nI m) (hm : m ≤ 8) : ∀ i, ∃ m', m' ≤ 8 ∧ upd NL j (nI m) i = nI m' := by
  intro i
  by_cases e : i = j
  · subst e
    exact ⟨m, hm, pk_us⟩
  · obtain ⟨m', h1, h2⟩ := h i
    exact ⟨m', h1, by rw [pk_un e]; exact h2⟩
theorem i_up {k : Nat} {u : SX} {v : SY} (h : i_Rel k u v) : i_Rel (k + 2) u v := h
theorem i_vc0 : wpX_init (fun u => wpY_init (fun v => i_Rel 0 u v)) :=
  ⟨0, 0, 1, _, _, _, _, _, _, 0, _, _, _, _, rfl, rfl, by omega, by omega, by omega, by omega, fun r h => by omega, fun j => ⟨0, by omega, rfl⟩⟩
theorem i_vc_pattern {k : Nat} {u : SX} {v : SY} (I : i_Rel k u v) (hk : k + 2 ≤ 1024) (v1 : Int32) : wpX_pattern (fun r u' => wpY_pattern (fun r' v' => r' = r ∧ i_Rel (k + 2) u' v') v v1) u v1 := by
  obtain ⟨bl, rc, nc, B, G, RL, M, L, NL, pc, PF, PT, RF, LF, rfl, rfl, h1, h2, h3, h4, h5, h6⟩ := I
  by_cases ha : v1 < 1
  · exact br_t ha (br_t ha ⟨rfl, ig_R h1 h2 h3 h4 h5 h6⟩)
  · by_cases hb : v1 ≤ 10
    · by_cases hc : bl < 10
      · have hcl : (nI bl).toNatClampNeg = bl := nI_clamp (by omega)
        have hin : vp_in (nI bl) 10 := vp_in_nI hc (by omega)
        have hne : ¬ nI bl = 10 := fun h => by have := (nI_eq (b := 10) (by omega) (by omega)).mp h; omega
        refine br_f ha (br_t hb (br_t (nI_lt (b := 10) hc (by omega)) ⟨hin, nm_r (e' := upd B bl v1) (by rw [hcl]) (nm_r (nI_1 bl) ?_)⟩))
        exact br_f ha (br_t hb (br_f hne ⟨hin, nm_r (e' := upd B bl v1) (by rw [hcl]) (nm_r (nI_1 bl) ⟨rfl, ig_R (by omega) h2 h3 h4 h5 h6⟩)⟩))
      · have e : bl = 10 := by omega
        subst e
        exact br_f ha (br_t hb (br_f (by decide) (br_f ha (br_t hb (br_t rfl ⟨rfl, ig_R h1 h2 h3 h4 h5 h6⟩)))))
    · exact br_f ha (br_f hb (br_f ha (br_f hb ⟨rfl, ig_R h1 h2 h3 h4 h5 h6⟩)))
theorem i_vc_rule {k : Nat} {u : SX} {v : SY} (I : i_Rel k u v) (hk : k + 2 ≤ 1024) (v1 : Int32) : wpX_rule (fun r u' => wpY_rule (fun r' v' => r' = r ∧ i_Rel (k + 2) u' v') v v1) u v1 := by
  obtain ⟨bl, rc, nc, B, G, RL, M, L, NL, pc, PF, PT, RF, LF, rfl, rfl, h1, h2, h3, h4, h5, h6⟩ := I
  unfold wpX_rule wpY_rule
  dsimp only
  refine ig_xgd h1 (fun hg => ?_) (fun hg => ?_)
  · refine br_f (by decide) ?_
    by_cases hr : rc < 12
    · refine br_t (nI_lt (b := 12) hr (by omega)) ⟨bl + 1, ig_x43 h1 hr ?_ bl 0 (by omega) _ (by omega)⟩
      refine ig_ygd h1 (fun _ => ?_) (fun h => absurd hg h)
      have hne : ¬ nI rc = 12 := fun h => by have := (nI_eq (b := 12) (by omega) (by omega)).mp h; omega
      refine br_f (by decide) (br_f hne ⟨bl + 1, ig_y37 h1 hr ?_ bl 0 (by omega) _ (by omega)⟩)
      exact ⟨rfl, ig_R (bl := 0) (by omega) (by omega) h3 h4 (ig_rua h5 hg h1) h6⟩
    · have e : rc = 12 := by omega
      subst e
      refine br_f (by decide) (ig_ygd h1 (fun _ => ?_) (fun h => absurd hg h))
      exact br_f (by decide) (br_t rfl ⟨rfl, ig_R (bl := 0) (by omega) (by omega) h3 h4 h5 h6⟩)
  · refine br_t rfl (ig_ygd h1 (fun h => absurd h hg) (fun _ => ?_))
    exact br_t rfl ⟨rfl, ig_R (bl := 0) (by omega) (by omega) h3 h4 h5 h6⟩
theorem i_vc_dropRule {k : Nat} {u : SX} {v : SY} (I : i_Rel k u v) (hk : k + 2 ≤ 1024) : wpX_dropRule (fun r u' => wpY_dropRule (fun r' v' => r' = r ∧ i_Rel (k + 2) u' v') v) u := by
  obtain ⟨bl, rc, nc, B, G, RL, M, L, NL, pc, PF, PT, RF, LF, rfl, rfl, h1, h2, h3, h4, h5, h6⟩ := I
  rcases Nat.eq_zero_or_pos rc with hz | hz
  · subst hz
    exact br_t rfl (br_t rfl ⟨rfl, ig_R h1 h2 h3 h4 h5 h6⟩)
  · have hne : ¬ nI rc = 0 := nI_ne0 hz (by omega)
    have e : nI rc - 1 = nI (rc - 1) := pk_sub (b := 1) hz
    exact br_f hne (nm_r e (br_f hne (nm_r e ⟨rfl, ig_R h1 (by omega) h3 h4 (ig_rud h5 (by omega)) h6⟩)))
theorem i_vc_path {k : Nat} {u : SX} {v : SY} (I : i_Rel k u v) (hk : k + 2 ≤ 1024) (v1 : Int32) : wpX_path (fun r u' => wpY_path (fun r' v' => r' = r ∧ i_Rel (k + 2) u' v') v v1) u v1 := by
  obtain ⟨bl, rc, nc, B, G, RL, M, L, NL, pc, PF, PT, RF, LF, rfl, rfl, h1, h2, h3, h4, h5, h6⟩ := I
  obtain ⟨m, hm, em⟩ := h6 (nc - 1)
  have e1 : nI nc - 1 = nI (nc - 1) := pk_sub (b := 1) h3
  have hcl : (nI (nc - 1)).toNatClampNeg = nc - 1 := nI_clamp (by omega)
  have hcn : (nI nc).toNatClampNeg = nc := nI_clamp (by omega)
  have hin : vp_in (nI (nc - 1)) 6 := vp_in_nI (by omega) (by omega)
  have eN : NL (nI (nc - 1)).toNatClampNeg = nI m := by rw [hcl]; exact em
  by_cases hlet : ¬ v1 < 1 ∧ ¬ 6 < v1
  · obtain ⟨ha, hb⟩ := hlet
    have hb' : v1 ≤ 6 := Int32.not_lt.mp hb
    have h9 : ¬ v1 = 9 := fun h => by rw [h] at hb; exact hb (by decide)
    have hY : ∀ P, wY_path_19 P v1 (nI bl) (nI rc) (nI nc) pc B G RL (fun i => M i &&& 7) L NL PF PT RF LF → wpY_path P (nI bl, nI rc, nI nc, pc, B, G, RL, (fun i => M i &&& 7), L, NL, PF, PT, RF, LF) v1 := fun P h => br_f ha (br_t hb' h)
    refine br_f ha (br_f hb (br_f (by decide) (nm_r e1 ⟨hin, nm_r eN (br_f (by decide) ?_)⟩)))
    by_cases h8 : m < 8
    · have e2 : nI (nc - 1) * 8 + nI m = nI ((nc - 1) * 8 + m) := by rw [show (8 : Int32) = nI 8 from rfl, pk_mul, nI_add]
      have hcl2 : (nI (nc - 1) * 8 + nI m).toNatClampNeg = (nc - 1) * 8 + m := by rw [e2]; exact nI_clamp (by omega)
      have hin2 : vp_in (nI (nc - 1) * 8 + nI m) 48 := by rw [e2]; exact vp_in_nI (by omega) (by omega)
      have hne : ¬ nI m = 8 := fun h => by have := (nI_eq (b := 8) (by omega) (by omega)).mp h; omega
      refine br_t (nI_lt (b := 8) h8 (by omega)) ⟨hin2, nm_r (e' := upd L ((nc - 1) * 8 + m) v1) (by rw [hcl2]) ⟨hin, nm_r (e' := upd NL (nc - 1) (nI (m + 1))) (by rw [hcl, nI_1]) (hY _ (nm_r e1 (br_f h9 ⟨hin, ?_⟩)))⟩⟩
      rw [eN]
      refine br_f hne ⟨hin, hin2, nm_r (e' := upd L ((nc - 1) * 8 + m) v1) (by rw [hcl2]) ⟨hin, hin, nm_r (e' := upd NL (nc - 1) (nI (m + 1))) (by rw [hcl, nI_1]) ⟨rfl, ig_R h1 h2 h3 h4 h5 (ig_nl h6 (by omega))⟩⟩⟩
    · have e8 : m = 8 := by omega
      subst e8
      refine br_f (by decide) (hY _ (nm_r e1 (br_f h9 ⟨hin, ?_⟩)))
      rw [eN]
      exact br_t rfl ⟨rfl, ig_R h1 h2 h3 h4 h5 h6⟩
  · have hX : ∀ P, wX_path_15 P v1 (nI bl) (nI rc) (nI nc) B G RL M L NL → wpX_path P (nI bl, nI rc, nI nc, B, G, RL, M, L, NL) v1 := by
      intro P h
      by_cases ha : v1 < 1
      · exact br_t ha h
      · exact br_f ha (br_t (Classical.byContradiction fun z => hlet ⟨ha, z⟩) h)
    have hY : ∀ P, wY_path_11 P v1 (nI bl) (nI rc) (nI nc) pc B G RL (fun i => M i &&& 7) L NL PF PT RF LF → wpY_path P (nI bl, nI rc, nI nc, pc, B, G, RL, (fun i => M i &&& 7), L, NL, PF, PT, RF, LF) v1 := by
      intro P h
      by_cases ha : v1 < 1
      · exact br_t ha h
      · exact br_f ha (br_f (fun z => hlet ⟨ha, Int32.not_lt.mpr z⟩) h)
    refine hX _ (br_t rfl ?_)
    by_cases h9 : v1 = 9
    · refine br_t h9 (nm_r e1 ⟨hin, nm_r eN (br_t rfl ?_)⟩)
      by_cases hz : m = 0
      · subst hz
        refine br_t rfl (hY _ (br_t h9 (nm_r e1 (br_t h9 ⟨hin, ?_⟩))))
        rw [eN]
        exact br_t rfl ⟨rfl, ig_R h1 h2 h3 h4 h5 h6⟩
      · have hne : ¬ nI m = 0 := nI_ne0 (by omega) (by omega)
        by_cases hc : nc < 6
        · have hin2 : vp_in (nI nc) 6 := vp_in_nI hc (by omega)
          have hne2 : ¬ nI nc = 6 := fun h => by have := (nI_eq (b := 6) (by omega) (by omega)).mp h; omega
          refine br_f hne (br_t (nI_lt (b := 6) hc (by omega)) ⟨hin2, nm_r (e' := upd NL nc (nI 0)) (by rw [hcn]; rfl) (nm_r (nI_1 nc) (hY _ (br_t h9 (nm_r e1 (br_t h9 ⟨hin, ?_⟩)))))⟩)
          rw [eN]
          exact br_f hne (br_f hne2 ⟨hin2, nm_r (e' := upd NL nc (nI 0)) (by rw [hcn]; rfl) (nm_r (nI_1 nc) ⟨rfl, ig_R h1 h2 (by omega) (by omega) h5 (ig_nl h6 (by omega))⟩)⟩)
        · have e6 : nc = 6 := by omega
          subst e6
          refine br_f hne (br_f (by decide) (hY _ (br_t h9 (nm_r e1 (br_t h9 ⟨hin, ?_⟩)))))
          rw [eN]
          exact br_f hne (br_t rfl ⟨rfl, ig_R h1 h2 h3 h4 h5 h6⟩)
    · exact br_f h9 (hY _ (br_f h9 ⟨rfl, ig_R h1 h2 h3 h4 h5 h6⟩))
theorem i_vc_clearPath {k : Nat} {u : SX} {v : SY} (I : i_Rel k u v) (hk : k + 2 ≤ 1024) : wpX_clearPath (fun u' => wpY_clearPath (fun v' => i_Rel (k + 2) u' v') v) u := by
  obtain ⟨bl, rc, nc, B, G, RL, M, L, NL, pc, PF, PT, RF, LF, rfl, rfl, h1, h2, h3, h4, h5, h6⟩ := I
  exact nm_e (nm_e (ig_R (nc := 1) h1 h2 (by omega) (by omega) h5 (ig_nl (m := 0) h6 (by omega))))
theorem i_vc_ignored {k : Nat} {u : SX} {v : SY} (I : i_Rel k u v) (hk : k + 2 ≤ 1024) (v1 : Int32) : wpX_ignored (fun r => wpY_ignored (fun r' v' => r' = r ∧ i_Rel (k + 2) u v') v (lw_bz v1)) u (lw_bz v1) := by
  obtain ⟨bl, rc, nc, B, G, RL, M, L, NL, pc, PF, PT, RF, LF, rfl, rfl, h1, h2, h3, h4, h5, h6⟩ := I
  unfold wpX_ignored wpY_ignored
  dsimp only
  refine ig_xli h2 h5 h3 h4 h6 (fun hp => br_t rfl ?_) (fun hp => ?_)
  · refine ig_yca h2 h5 h3 h4 h6 (fun _ pc PF PT RF LF => ?_) (fun h => absurd hp h)
    exact br_t rfl ⟨rfl, ig_R h1 h2 h3 h4 h5 h6⟩
  · by_cases hc : ig_ca (ig_Q G RL M L NL rc nc (lw_bz v1)) nc 1 = -5
    · refine br_t hc (ig_yca h2 h5 h3 h4 h6 (fun h => absurd h hp) (fun _ pc PF PT RF LF => ?_))
      exact br_t hc ⟨rfl, ig_R h1 h2 h3 h4 h5 h6⟩
    · refine br_f hc (ig_yca h2 h5 h3 h4 h6 (fun h => absurd h hp) (fun _ pc PF PT RF LF => ?_))
      exact br_f hc ⟨rfl, ig_R h1 h2 h3 h4 h5 h6⟩
theorem i_vc_lastMatch {k : Nat} {u : SX} {v : SY} (I : i_Rel k u v) (hk : k + 2 ≤ 1024) (v1 : Int32) : wpX_lastMatch (fun r => wpY_lastMatch (fun r' v' => r' = r ∧ i_Rel (k + 2) u v') v (lw_bz v1)) u (lw_bz v1) := by
  obtain ⟨bl, rc, nc, B, G, RL, M, L, NL, pc, PF, PT, RF, LF, rfl, rfl, h1, h2, h3, h4, h5, h6⟩ := I
  unfold wpX_lastMatch wpY_lastMatch
  dsimp only
  refine ig_xip h3 h4 (fun hp => br_t rfl ?_) (fun hp => br_f (by decide) (ig_xlm h2 h5 h3 h4 h6 ?_))
  · refine ig_yip h3 h4 (fun _ => br_t rfl ?_) (fun h => absurd hp h)
    exact ⟨rfl, ig_R h1 h2 h3 h4 h5 h6⟩
  · refine ig_yip h3 h4 (fun h => absurd h hp) (fun _ => br_f (by decide) (ig_ylf h2 h5 h3 h4 h6 fun pc PF PT RF LF => ?_))
    exact ⟨rfl, ig_R h1 h2 h3 h4 h5 h6⟩
theorem i_vc_matches {k : Nat} {u : SX} {v : SY} (I : i_Rel k u v) (hk : k + 2 ≤ 1024) (v1 : Int32) : wpX_matches (fun r => wpY_matches (fun r' v' => r' = r ∧ i_Rel (k + 2) u v') v (lw_bz v1)) u (lw_bz v1) := by
  obtain ⟨bl, rc, nc, B, G, RL, M, L, NL, pc, PF, PT, RF, LF, rfl, rfl, h1, h2, h3, h4, h5, h6⟩ := I
  unfold wpX_matches wpY_matches
  dsimp only
  refine ig_xip h3 h4 (fun hp => br_t rfl ⟨rc + 1, ?_⟩) (fun hp => br_f (by decide) ⟨rc + 1, ig_x13 h2 h5 h3 h4 h6 ⟨rc + 1, ?_⟩ rc 0 (by omega) _ (by omega)⟩)
  · exact ig_y4n h2 h3 h4 hp ⟨rfl, ig_R h1 h2 h3 h4 h5 h6⟩ rc 0 (by omega) _ (by omega)
  · exact ig_y4 h2 h5 h3 h4 h6 hp (fun pc PF PT RF LF => ⟨rfl, ig_R h1 h2 h3 h4 h5 h6⟩) rc 0 pc PF PT RF LF (by omega) _ (by omega)
theorem i_vc_cutAt {k : Nat} {u : SX} {v : SY} (I : i_Rel k u v) (hk : k + 2 ≤ 1024) (v1 : Int32) : wpX_cutAt (fun r => wpY_cutAt (fun r' v' => r' = r ∧ i_Rel (k + 2) u v') v (lw_bz v1)) u (lw_bz v1) := by
  obtain ⟨bl, rc, nc, B, G, RL, M, L, NL, pc, PF, PT, RF, LF, rfl, rfl, h1, h2, h3, h4, h5, h6⟩ := I
  unfold wpX_cutAt
  dsimp only
  refine ig_xli h2 h5 h3 h4 h6 (fun hp => ?_) (fun hp => ?_)
  · exact ig_yca h2 h5 h3 h4 h6 (fun _ pc PF PT RF LF => ⟨rfl, ig_R h1 h2 h3 h4 h5 h6⟩) (fun h => absurd hp h)
  · exact ig_yca h2 h5 h3 h4 h6 (fun h => absurd h hp) (fun _ pc PF PT RF LF => ⟨rfl, ig_R h1 h2 h3 h4 h5 h6⟩)
theorem i_vc_rules {k : Nat} {u : SX} {v : SY} (I : i_Rel k u v) (hk : k + 2 ≤ 1024) : wpX_rules (fun r => wpY_rules (fun r' => r' = r ∧ i_Rel (k + 2) u v) v) u := by
  obtain ⟨bl, rc, nc, B, G, RL, M, L, NL, pc, PF, PT, RF, LF, rfl, rfl, h1, h2, h3, h4, h5, h6⟩ := I
  exact ⟨rfl, ig_R h1 h2 h3 h4 h5 h6⟩
