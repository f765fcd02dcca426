theorem sm_loop : ∀ (M : Nat) (u : SX) (v : SY), sc_MR M u v → ∃ r u' v', sc_RL u' v' ∧ (∀ (post : Int32 → SX → Prop) n i, M + 2 < n → i + M + 2 ≤ 1000000 → post r u' → sc_lX post n (nI i) u) ∧ (∀ (post : Int32 → SY → Prop) n i, M + 2 < n → i + M + 2 ≤ 100000 → post r v' → sc_lY post n (nI i) v) := by
  intro M
  induction M using Nat.strongRecOn with
  | ind M ih =>
    intro u v h
    obtain ⟨u1, v1, r, KX, KY, hS⟩ := sm_step h
    rcases hS with ⟨hr, M', hM, h1⟩ | ⟨h2, h0, h1⟩ | ⟨hr, h1⟩
    · obtain ⟨r', u', v', hR, LX, LY⟩ := ih M' hM u1 v1 h1
      refine ⟨r', u', v', hR, fun post n i hn hi hp => ?_, fun post n i hn hi hp => ?_⟩
      · obtain ⟨m, rfl⟩ : ∃ m, n = m + 1 := ⟨n - 1, by omega⟩
        exact KX post m i (by omega) (LX post m (i + 1) (by omega) (by omega) hp)
      · obtain ⟨m, rfl⟩ : ∃ m, n = m + 1 := ⟨n - 1, by omega⟩
        exact KY post m i (by omega) (fun _ => LY post m (i + 1) (by omega) (by omega) hp) (fun z => absurd hr z)
    · obtain ⟨hR, LX⟩ := sm_err h1 h2 h0
      refine ⟨r, u1, v1, hR, fun post n i hn hi hp => ?_, fun post n i hn hi hp => ?_⟩
      · obtain ⟨m, rfl⟩ : ∃ m, n = m + 1 + 1 := ⟨n - 2, by omega⟩
        exact KX post (m + 1) i (by omega) (LX post m (i + 1) (by omega) hp)
      · obtain ⟨m, rfl⟩ : ∃ m, n = m + 1 := ⟨n - 1, by omega⟩
        exact KY post m i (by omega) (fun z => absurd z h2) (fun _ => hp)
    · obtain ⟨u', hR, LX⟩ := sm_ok h1
      subst hr
      refine ⟨0, u', v1, hR, fun post n i hn hi hp => ?_, fun post n i hn hi hp => ?_⟩
      · obtain ⟨m, rfl⟩ : ∃ m, n = m + 1 + 1 := ⟨n - 2, by omega⟩
        exact KX post (m + 1) i (by omega) (LX post m (i + 1) (by omega) hp)
      · obtain ⟨m, rfl⟩ : ∃ m, n = m + 1 := ⟨n - 1, by omega⟩
        exact KY post m i (by omega) (fun z => absurd z (by decide)) (fun _ => hp)
