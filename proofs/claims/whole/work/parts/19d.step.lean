/-! ===== one step of the machine, and its ends ===== -/
theorem sm_step {M : Nat} {u : SX} {v : SY} (h : sc_MR M u v) : ∃ u1 v1 r, (∀ (post : Int32 → SX → Prop) n i, i < 1000000 → sc_lX post n (nI (i + 1)) u1 → sc_lX post (n + 1) (nI i) u) ∧ (∀ (post : Int32 → SY → Prop) n i, i < 100000 → (r = -2 → sc_lY post n (nI (i + 1)) v1) → (¬ r = -2 → post r v1) → sc_lY post (n + 1) (nI i) v) ∧ sc_SR M r u1 v1 := by
  refine sc_MR_e h (fun fu ll dl nc ss hk hv ca pk st ev cu ec va vc dp rc hK hV ct wt lc yc rK rV nk nl n2 k1 k2 k3 nf sk en fk fn fl fm iu sl sw sm rs Nk N2 C1 C2 C3 cl ck cv mk wk rm gk gn ge gv gp gq yk yv qu qv hm => ?_)
  clear h
  subst qu qv
  obtain ⟨F, L, D, N, S, A, P, sz, g, U, T, d, q, Q, ⟨e1, e2, e3, e4, e5, e6, e7, e8, e9⟩, hB, ⟨hd, hM, hT⟩, hH, hI, hS⟩ := hm
  subst e1 e2 e3 e4 e5 e6 e7 e8 e9
  rcases hS with ⟨rfl, n, hn, rfl, rfl, rfl, hR⟩ | ⟨rfl, rfl, c, rfl, hV⟩
  · exact sm_stepE hB hd hM hT hH hI hn hR
  · exact sm_stepR hB hd hM hT hH hI hV
theorem sm_err {r : Int32} {u : SX} {v : SY} (h : sc_ER r u v) (h2 : ¬ r = -2) (h0 : ¬ r = 0) : sc_RL u v ∧ ∀ (post : Int32 → SX → Prop) n i, i < 1000000 → post r u → sc_lX post (n + 1) (nI i) u := by
  refine sc_ER_e h (fun fu ll dl nc ss hk hv ca pk st ev cu ec va vc dp rc hK hV ct wt lc yc rK rV nk nl n2 k1 k2 k3 nf sk en fk fn fl fm iu sl sw sm rs Nk N2 C1 C2 C3 cl ck cv mk wk rm gk gn ge gv gp gq yk yv sp ye qu qv hm => ?_)
  clear h
  subst qu qv
  obtain ⟨F, L, D, N, S, A, P, sz, ⟨e1, e2, e3, e4, e5, e6, e7⟩, hB⟩ := hm
  subst e1 e2 e3 e4 e5 e6 e7
  exact sm_errk hB h2 h0
theorem sm_ok {u : SX} {v : SY} (h : sc_OK u v) : ∃ u', sc_RL u' v ∧ ∀ (post : Int32 → SX → Prop) n i, i < 1000000 → post 0 u' → sc_lX post (n + 1) (nI i) u := by
  refine sc_OK_e h (fun fu ll dl nc ss hk hv ca pk st ev cu ec va vc dp rc hK hV ct wt lc yc rK rV nk nl n2 k1 k2 k3 nf sk en fk fn fl fm iu sl sw sm rs Nk N2 C1 C2 C3 cl ck cv mk wk rm gk gn ge gv gp gq yk yv qu qv hm => ?_)
  clear h
  subst qu qv
  obtain ⟨F, L, D, N, S, A, P, sz, g, U, T, c, ⟨e1, e2, e3, e4, e5, e6, e7, e8⟩, hB, hT, hb, hn, hI, ec1, hV⟩ := hm
  subst e1 e2 e3 e4 e5 e6 e7 e8 ec1
  rcases hV with ⟨rfl, rfl, rfl⟩ | ⟨rfl, rfl, s, hs, y1, y2⟩
  · exact ⟨_, sm_ok1 hB⟩
  · exact ⟨_, sm_ok2 hB hT hb hn hI hs y1 y2⟩
