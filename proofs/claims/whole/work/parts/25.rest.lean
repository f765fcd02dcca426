/-! ===== the other calls ===== -/
theorem i_vc_clear {k : Nat} {u : SX} {v : SY} (I : i_Rel k u v) (hk : k + 3 ≤ 1539) : wpX_clear (fun u' => wpY_clear (fun v' => i_Rel (k + 3) u' v') v) u := by
  refine sc_RL_e I (fun hk hv st ev cu ec va vc dp rc hK hV ct wt lc yc rK rV nk nl n2 k1 k2 k3 nf sk en fk fn fl fm iu sl sw sm rs Nk N2 C1 C2 C3 cl ck cv mk wk rm gk gn ge gv gp gq yk yv sp ye F L D N S A P sz qu qv hB hD => ?_)
  clear I
  subst qu qv
  obtain ⟨⟨b1, b2, b3, b4, b5, b6, b7, b8⟩, hB2⟩ := hB
  unfold wpX_clear wpX_forgetLastRun wpY_clear
  exact sc_RLk (N := 0) (S := 0) (A := 0) (P := 0) (sz := sz) (⟨⟨b1, b2, b3, b4, by omega, by omega, by omega, by omega⟩, fun i hi => absurd hi (Nat.not_lt_zero i), fun i hi => absurd hi (Nat.not_lt_zero i), rfl⟩) (Or.inl ⟨rfl, rfl, rfl, rfl⟩)
theorem i_vc_resultKind {k : Nat} {u : SX} {v : SY} (I : i_Rel k u v) (hk : k + 3 ≤ 1539) : wpX_resultKind (fun r => wpY_resultKind (fun r' => r' = r ∧ i_Rel (k + 3) u v) v) u := by
  have I0 := i_up I
  refine sc_RL_e I (fun hk hv st ev cu ec va vc dp rc hK hV ct wt lc yc rK rV nk nl n2 k1 k2 k3 nf sk en fk fn fl fm iu sl sw sm rs Nk N2 C1 C2 C3 cl ck cv mk wk rm gk gn ge gv gp gq yk yv sp ye F L D N S A P sz qu qv hB hD => ?_)
  clear I
  subst qu qv
  unfold wpX_resultKind wpY_resultKind
  rcases hD with ⟨rfl, rfl, rfl, rfl⟩ | ⟨rfl, rfl, rfl⟩ | ⟨rfl, rfl, _⟩
  · exact ⟨rfl, I0⟩
  · exact ⟨rfl, I0⟩
  · exact ⟨rfl, I0⟩
theorem i_vc_resultValue {k : Nat} {u : SX} {v : SY} (I : i_Rel k u v) (hk : k + 3 ≤ 1539) : wpX_resultValue (fun r => wpY_resultValue (fun r' => r' = r ∧ i_Rel (k + 3) u v) v) u := by
  have I0 := i_up I
  refine sc_RL_e I (fun hk hv st ev cu ec va vc dp rc hK hV ct wt lc yc rK rV nk nl n2 k1 k2 k3 nf sk en fk fn fl fm iu sl sw sm rs Nk N2 C1 C2 C3 cl ck cv mk wk rm gk gn ge gv gp gq yk yv sp ye F L D N S A P sz qu qv hB hD => ?_)
  clear I
  subst qu qv
  unfold wpX_resultValue
  rcases hD with ⟨rfl, rfl, rfl, rfl⟩ | ⟨rfl, rfl, rfl⟩ | ⟨rfl, rfl, s, g, U, T, rfl, hT, hb, hn, hI, hs, rfl, rfl⟩
  · refine br_f (by decide) ?_
    unfold wpY_resultValue
    exact br_f (by decide) (br_f (by decide) ⟨rfl, I0⟩)
  · refine br_f (by decide) ?_
    unfold wpY_resultValue
    exact br_t rfl ⟨rfl, I0⟩
  · obtain ⟨h34, _, hg⟩ := hb.1 s hs
    obtain ⟨l, l1, l2, l3, l4, _⟩ := hn s hs
    refine br_t rfl ⟨vp_in_nI h34 (by omega), ?_⟩
    unfold wpY_resultValue
    refine br_f (by decide) (br_t rfl (br_f (nI_pos (by omega)) (br_f (nI_ge (a := g s) (b := 4096) (by omega) (by omega)) ⟨vp_in_nI (by omega) (by omega), ?_, I0⟩)))
    rw [nI_clamp (n := g s) (by omega), nI_clamp (n := s) (by omega), l3, l4]
theorem i_vc_callsUsed {k : Nat} {u : SX} {v : SY} (I : i_Rel k u v) (hk : k + 3 ≤ 1539) : wpX_callsUsed (fun r => wpY_callsUsed (fun r' => r' = r ∧ i_Rel (k + 3) u v) v) u := by
  have I0 := i_up I
  refine sc_RL_e I (fun hk hv st ev cu ec va vc dp rc hK hV ct wt lc yc rK rV nk nl n2 k1 k2 k3 nf sk en fk fn fl fm iu sl sw sm rs Nk N2 C1 C2 C3 cl ck cv mk wk rm gk gn ge gv gp gq yk yv sp ye F L D N S A P sz qu qv hB hD => ?_)
  clear I
  subst qu qv
  unfold wpX_callsUsed wpY_callsUsed
  exact ⟨rfl, I0⟩
theorem i_vc_peakLive {k : Nat} {u : SX} {v : SY} (I : i_Rel k u v) (hk : k + 3 ≤ 1539) : wpX_peakLive (fun r => wpY_peakLive (fun r' => r' = r ∧ i_Rel (k + 3) u v) v) u := by
  have I0 := i_up I
  refine sc_RL_e I (fun hk hv st ev cu ec va vc dp rc hK hV ct wt lc yc rK rV nk nl n2 k1 k2 k3 nf sk en fk fn fl fm iu sl sw sm rs Nk N2 C1 C2 C3 cl ck cv mk wk rm gk gn ge gv gp gq yk yv sp ye F L D N S A P sz qu qv hB hD => ?_)
  clear I
  subst qu qv
  unfold wpX_peakLive wpY_peakLive
  exact ⟨rfl, I0⟩
theorem i_vc_freeVars {k : Nat} {u : SX} {v : SY} (I : i_Rel k u v) (hk : k + 3 ≤ 1539) (v1 : Int32) : wpX_freeVars (fun r => wpY_freeVars (fun r' => r' = r ∧ i_Rel (k + 3) u v) v v1) u v1 := by
  have I0 := i_up I
  refine sc_RL_e I (fun hk hv st ev cu ec va vc dp rc hK hV ct wt lc yc rK rV nk nl n2 k1 k2 k3 nf sk en fk fn fl fm iu sl sw sm rs Nk N2 C1 C2 C3 cl ck cv mk wk rm gk gn ge gv gp gq yk yv sp ye F L D N S A P sz qu qv hB hD => ?_)
  clear I
  subst qu qv
  have hN := hB.1.2.2.2.2.1
  unfold wpX_freeVars wpY_freeVars
  rcases pk_ix v1 (n := N) (by omega) with h | h | ⟨j, hj, rfl⟩
  · exact br_t h (br_t h ⟨rfl, I0⟩)
  · have h0 : ¬ v1 < 0 := fun z => absurd (Int32.lt_of_le_of_lt (Int32.le_trans (nI_pos' (by omega)) h) z) (by decide)
    have h1 : ¬ v1 < nI N := Int32.not_lt.mpr h
    exact br_f h0 (br_f h1 (br_f h0 (br_f h1 ⟨rfl, I0⟩)))
  · exact br_f (nI_pos (by omega)) (br_t (nI_lt hj (by omega)) ⟨vp_in_nI (by omega) (by omega), br_f (nI_pos (by omega)) (br_t (nI_lt hj (by omega)) ⟨vp_in_nI (by omega) (by omega), rfl, I0⟩)⟩)
