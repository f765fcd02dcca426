/-! ===== the relation between calls; construction; the pushes ===== -/
def i_Rel (_ : Nat) (u : SX) (v : SY) : Prop := sc_RL u v
theorem i_up {k : Nat} {u : SX} {v : SY} (h : i_Rel k u v) : i_Rel (k + 3) u v := h
theorem sc_clamp (x : Int32) (lo hi : Nat) (h : lo ≤ hi) (hh : hi < 2 ^ 31) : ∃ n, lo ≤ n ∧ n ≤ hi ∧ (∀ post : Int32 → Prop, post (nI n) → wpX_clamp post x (nI lo) (nI hi)) ∧ (∀ (post : Int32 → Prop) (u : SY), post (nI n) → wpY_clamp post u x (nI lo) (nI hi)) := by
  by_cases h1 : nI lo ≤ x
  · by_cases h2 : x ≤ nI hi
    · have h0 : ¬ x < 0 := Int32.not_lt.mpr (Int32.le_trans (nI_pos' (by omega)) h1)
      obtain ⟨j, hj, rfl⟩ := nI_of h0
      rw [nI_leI (by omega) hj] at h1
      rw [nI_leI hj hh] at h2
      refine ⟨j, h1, h2, fun post hp => br_t (nI_le h1 hj) (br_t (nI_le h2 hh) hp), fun post u hp => ?_⟩
      obtain ⟨_, _, _, _, _, _, _, _, _, _, _, _, _, _, _, _, _, _, _, _, _, _, _, _, _, _, _, _, _, _, _, _, _, _, _, _, _, _, _, _, _⟩ := u
      exact br_t (nI_le h1 hj) (br_t (nI_le h2 hh) hp)
    · refine ⟨hi, h, Nat.le_refl hi, fun post hp => br_t h1 (br_f h2 hp), fun post u hp => ?_⟩
      obtain ⟨_, _, _, _, _, _, _, _, _, _, _, _, _, _, _, _, _, _, _, _, _, _, _, _, _, _, _, _, _, _, _, _, _, _, _, _, _, _, _, _, _⟩ := u
      exact br_t h1 (br_f h2 hp)
  · refine ⟨lo, Nat.le_refl lo, h, fun post hp => br_f h1 hp, fun post u hp => ?_⟩
    obtain ⟨_, _, _, _, _, _, _, _, _, _, _, _, _, _, _, _, _, _, _, _, _, _, _, _, _, _, _, _, _, _, _, _, _, _, _, _, _, _, _, _, _⟩ := u
    exact br_f h1 hp
theorem i_vc0 (k0 : Int32) (k1 : Int32) (k2 : Int32) : wpX_init (fun u => wpY_init (fun v => i_Rel 3 u v) k0 k1 k2) k0 k1 k2 := by
  obtain ⟨F, f1, f2, fX, fY⟩ := sc_clamp k0 1 100 (by omega) (by omega)
  obtain ⟨L, l1, l2, lX, lY⟩ := sc_clamp k1 2 32 (by omega) (by omega)
  obtain ⟨D, d1, d2, dX, dY⟩ := sc_clamp k2 4 32 (by omega) (by omega)
  unfold wpX_init
  refine fX _ (lX _ (dX _ ?_))
  unfold wpY_init
  refine ⟨by decide, nm_r (e' := 32768) (by decide +kernel) ⟨Nat.le_refl _, by decide, nm_r (e' := 32768) (by decide +kernel) ⟨Nat.le_refl _, fY _ _ (lY _ _ (dY _ _ ?_))⟩⟩⟩
  exact sc_RLk (N := 0) (S := 0) (A := 0) (P := 0) (sz := fun _ => 0) (⟨⟨f1, f2, l2, d2, by omega, by omega, by omega, by omega⟩, fun i hi => absurd hi (Nat.not_lt_zero i), fun i hi => absurd hi (Nat.not_lt_zero i), rfl⟩) (Or.inl ⟨rfl, rfl, rfl, rfl⟩)
section
variable {fu ll dl nc ss hk hv ca pk st ev cu ec va vc dp rc : Int32} {nk nl n2 k1 k2 k3 nf sk en fk fn fl fm iu sl sw sm rs : Nat → Int32}
theorem xw_can {post : Int32 → Prop} {S N k : Nat} (hS : S ≤ 32) (hN : N ≤ 32) (hk3 : k ≤ 3) (h0 : S < k → post 0) (h1 : k ≤ S → 32 ≤ N → post 0) (h2 : k ≤ S → N < 32 → post 1) : wpX_canMake post (fu, ll, dl, nI N, nI S, hk, hv, ca, pk, st, ev, cu, ec, va, vc, dp, rc, nk, nl, n2, k1, k2, k3, nf, sk, en, fk, fn, fl, fm, iu, sl, sw, sm, rs) (nI k) := by
  unfold wpX_canMake
  exact pk_lt S k h0 (fun h => pk_le 32 N (fun h' => h1 h h') (fun h' => h2 h h'))
end
theorem xw_var {post : Int32 → Prop} {x : Int32} (h1 : ∀ j, j < 8 → x = nI j → post 1) (h0 : (x < 0 ∨ nI 8 ≤ x) → post 0) : wpX_isVariable post x := by
  unfold wpX_isVariable
  rcases pk_ix x (n := 8) (by omega) with h | h | ⟨j, hj, rfl⟩
  · exact br_t h (h0 (Or.inl h))
  · exact br_f (fun z => absurd (Int32.le_trans h (Int32.le_of_lt z)) (by decide)) (br_t h (h0 (Or.inr h)))
  · exact br_f (nI_pos (by omega)) (br_f (nI_ge (a := j) (b := 8) hj (by omega)) (h1 j hj rfl))
theorem sc_not8 {x : Int32} {A B : Prop} (h : x < 0 ∨ nI 8 ≤ x) (a : A) : (x < 0 → A) ∧ (¬ x < 0 → ((x ≤ 7 → B) ∧ (¬ x ≤ 7 → A))) := by
  refine br_c (fun _ => a) (fun h0 => br_f ?_ a)
  intro h7
  rcases h with h | h
  · exact h0 h
  · exact absurd (Int32.le_trans h h7) (by decide)
theorem sc_is8 {x : Nat} {A B : Prop} (h : x < 8) (b : B) : (nI x < 0 → A) ∧ (¬ nI x < 0 → ((nI x ≤ 7 → B) ∧ (¬ nI x ≤ 7 → A))) := br_f (nI_pos (by omega)) (br_t (nI_le (a := x) (b := 7) (by omega) (by omega)) b)
theorem sc_b1 (N : Nat) : nI (N + 1) - 1 = nI N := nI_pred N
theorem sc_b2 (N : Nat) : nI (N + 2) - 1 = nI (N + 1) ∧ nI (N + 2) - 2 = nI N := ⟨nI_pred (N + 1), (pk_sub (a := N + 2) (b := 2) (by omega)).trans (congrArg nI (by omega))⟩
theorem sc_b3 (N : Nat) : nI (N + 3) - 1 = nI (N + 2) ∧ nI (N + 3) - 2 = nI (N + 1) ∧ nI (N + 3) - 3 = nI N := ⟨nI_pred (N + 2), (pk_sub (a := N + 3) (b := 2) (by omega)).trans (congrArg nI (by omega)), (pk_sub (a := N + 3) (b := 3) (by omega)).trans (congrArg nI (by omega))⟩
theorem i_vc_pushNum {k : Nat} {u : SX} {v : SY} (I : i_Rel k u v) (hk : k + 3 ≤ 1539) (v1 : Int32) : wpX_pushNum (fun r u' => wpY_pushNum (fun r' v' => r' = r ∧ i_Rel (k + 3) u' v') v v1) u v1 := by
  have I0 := i_up I
  refine sc_RL_e I (fun hk hv st ev cu ec va vc dp rc hK hV ct wt lc yc rK rV nk nl n2 k1 k2 k3 nf sk en fk fn fl fm iu sl sw sm rs Nk N2 C1 C2 C3 cl ck cv mk wk rm gk gn ge gv gp gq yk yv sp ye F L D N S A P sz qu qv hB hD => ?_)
  clear I
  subst qu qv
  have hN := hB.1.2.2.2.2.1
  have hS := hB.1.2.2.2.2.2.1
  unfold wpX_pushNum
  refine xw_can (k := 0) (by omega) hN (by omega) (fun h => absurd h (Nat.not_lt_zero S)) (fun _ h => br_t rfl ?_) (fun _ h => br_f (by decide) (xw_node0 h (by omega) ?_))
  · unfold wpY_pushNum
    exact br_f (fun z => absurd ((nI_ltI (a := N) (b := 32) (by omega) (by omega)).mp z) (by omega)) ⟨rfl, I0⟩
  · unfold wpY_pushNum
    refine br_t (nI_lt (a := N) (b := 32) h (by omega)) (yw_node h (by omega) ⟨rfl, ?_⟩)
    exact sc_RLk (N := N + 1) (S := S + 1) (A := A) (P := P) (sz := _) (sc_BA_n (c := 0) (z := 1) hB h rfl ⟨⟨by dsimp only; rw [if_pos rfl]; omega, by dsimp only; rw [if_pos rfl]; omega⟩, Or.inl ⟨pk_us, pk_us⟩⟩) (sc_HD_n hD)
theorem i_vc_pushVar {k : Nat} {u : SX} {v : SY} (I : i_Rel k u v) (hk : k + 3 ≤ 1539) (v1 : Int32) : wpX_pushVar (fun r u' => wpY_pushVar (fun r' v' => r' = r ∧ i_Rel (k + 3) u' v') v v1) u v1 := by
  have I0 := i_up I
  refine sc_RL_e I (fun hk hv st ev cu ec va vc dp rc hK hV ct wt lc yc rK rV nk nl n2 k1 k2 k3 nf sk en fk fn fl fm iu sl sw sm rs Nk N2 C1 C2 C3 cl ck cv mk wk rm gk gn ge gv gp gq yk yv sp ye F L D N S A P sz qu qv hB hD => ?_)
  clear I
  subst qu qv
  have hN := hB.1.2.2.2.2.1
  have hS := hB.1.2.2.2.2.2.1
  unfold wpX_pushVar
  refine xw_var (fun x hx e => br_f (by decide) ?_) (fun h => br_t rfl ?_)
  · subst e
    refine xw_can (k := 0) (by omega) hN (by omega) (fun h => absurd h (Nat.not_lt_zero S)) (fun _ h => br_t rfl ?_) (fun _ h => br_f (by decide) (xw_node0 h (by omega) ?_))
    · unfold wpY_pushVar
      exact sc_is8 hx (br_f (fun z => absurd ((nI_ltI (a := N) (b := 32) (by omega) (by omega)).mp z) (by omega)) ⟨rfl, I0⟩)
    · unfold wpY_pushVar
      refine sc_is8 hx (br_t (nI_lt (a := N) (b := 32) h (by omega)) (yw_node h (by omega) ⟨rfl, ?_⟩))
      exact sc_RLk (N := N + 1) (S := S + 1) (A := A) (P := P) (sz := _) (sc_BA_n (c := 0) (z := 1) hB h rfl ⟨⟨by dsimp only; rw [if_pos rfl]; omega, by dsimp only; rw [if_pos rfl]; omega⟩, Or.inr (Or.inl ⟨pk_us, pk_us, x, hx, pk_us, by rw [pk_us, sc_sh1 x hx x (by omega)]; simp⟩)⟩) (sc_HD_n hD)
  · unfold wpY_pushVar
    exact sc_not8 h ⟨rfl, I0⟩
theorem i_vc_pushLam {k : Nat} {u : SX} {v : SY} (I : i_Rel k u v) (hk : k + 3 ≤ 1539) (v1 : Int32) : wpX_pushLam (fun r u' => wpY_pushLam (fun r' v' => r' = r ∧ i_Rel (k + 3) u' v') v v1) u v1 := by
  have I0 := i_up I
  refine sc_RL_e I (fun hk hv st ev cu ec va vc dp rc hK hV ct wt lc yc rK rV nk nl n2 k1 k2 k3 nf sk en fk fn fl fm iu sl sw sm rs Nk N2 C1 C2 C3 cl ck cv mk wk rm gk gn ge gv gp gq yk yv sp ye F L D N S A P sz qu qv hB hD => ?_)
  clear I
  subst qu qv
  have hN := hB.1.2.2.2.2.1
  have hS := hB.1.2.2.2.2.2.1
  unfold wpX_pushLam
  refine xw_var (fun x hx e => br_f (by decide) ?_) (fun h => br_t rfl ?_)
  · subst e
    refine xw_can (k := 1) (by omega) hN (by omega) (fun h => br_t rfl ?_) (fun h1 h => br_t rfl ?_) (fun h1 h => br_f (by decide) ?_)
    · unfold wpY_pushLam
      exact sc_is8 hx (br_t (show nI S = 0 from by rw [show S = 0 by omega]; rfl) ⟨rfl, I0⟩)
    · unfold wpY_pushLam
      exact sc_is8 hx (br_f (nI_ne0 (by omega) (by omega)) (br_f (fun z => absurd ((nI_ltI (a := N) (b := 32) (by omega) (by omega)).mp z) (by omega)) ⟨rfl, I0⟩))
    · obtain ⟨B, rfl⟩ : ∃ B, S = B + 1 := ⟨S - 1, by omega⟩
      obtain ⟨b, hb, eb⟩ := hB.2.2.1 B (by omega)
      have hz : sc_sum (fun j => sz (sk (B + j)).toNatClampNeg) 1 = sz b := by
        show 0 + sz (sk (B + 0)).toNatClampNeg = sz b
        rw [Nat.add_zero, eb, nI_clamp (by omega), Nat.zero_add]
      have hle : sz b ≤ N := by
        have := hB.2.2.2
        rw [sc_sum_add, hz] at this
        omega
      refine xw_at (k := 0) (j := B) (by omega) (by omega) eb (by omega) (nm_e (xw_node1 h (by omega) ?_))
      unfold wpY_pushLam
      dsimp only
      rw [sc_b1]
      refine sc_is8 hx (br_f (nI_ne0 (by omega) (by omega)) (br_t (nI_lt (a := N) (b := 32) h (by omega)) ⟨vp_in_nI (by omega) (by omega), nm_r (e' := nI b) (by rw [nI_clamp (by omega)]; exact eb) (nm_e ⟨vp_in_nI (by omega) (by omega), ?_⟩)⟩))
      rw [nI_clamp (n := b) (by omega), eb]
      refine yw_node h (by omega) ⟨rfl, ?_⟩
      refine sc_RLk (N := N + 1) (S := B + 1) (A := A) (P := P) (sz := _) (sc_BA_n (c := 1) (z := 1 + sz b) hB h (by rw [hz]) ⟨⟨by dsimp only; rw [if_pos rfl]; omega, by dsimp only; rw [if_pos rfl]; omega⟩, Or.inr (Or.inr (Or.inl ⟨pk_us, pk_us, x, b, hx, hb, pk_us, pk_us, pk_us, by dsimp only; rw [if_pos rfl, if_neg (show ¬ b = N by omega)], fun y hy hf hne => ?_⟩))⟩) (sc_HD_n hD)
      rw [pk_un (by omega)] at hf
      rw [pk_us, sc_bc hx (by omega), hf]
      simp [hne]
  · unfold wpY_pushLam
    exact sc_not8 h ⟨rfl, I0⟩
theorem i_vc_pushApp {k : Nat} {u : SX} {v : SY} (I : i_Rel k u v) (hk : k + 3 ≤ 1539) : wpX_pushApp (fun r u' => wpY_pushApp (fun r' v' => r' = r ∧ i_Rel (k + 3) u' v') v) u := by
  have I0 := i_up I
  refine sc_RL_e I (fun hk hv st ev cu ec va vc dp rc hK hV ct wt lc yc rK rV nk nl n2 k1 k2 k3 nf sk en fk fn fl fm iu sl sw sm rs Nk N2 C1 C2 C3 cl ck cv mk wk rm gk gn ge gv gp gq yk yv sp ye F L D N S A P sz qu qv hB hD => ?_)
  clear I
  subst qu qv
  have hN := hB.1.2.2.2.2.1
  have hS := hB.1.2.2.2.2.2.1
  unfold wpX_pushApp
  refine xw_can (k := 2) (by omega) hN (by omega) (fun h => br_t rfl ?_) (fun h1 h => br_t rfl ?_) (fun h1 h => br_f (by decide) ?_)
  · unfold wpY_pushApp
    exact br_f (nI_ge (a := S) (b := 2) h (by omega)) ⟨rfl, I0⟩
  · unfold wpY_pushApp
    exact br_t (nI_le (a := 2) (b := S) h1 (by omega)) (br_f (fun z => absurd ((nI_ltI (a := N) (b := 32) (by omega) (by omega)).mp z) (by omega)) ⟨rfl, I0⟩)
  · obtain ⟨B, rfl⟩ : ∃ B, S = B + 2 := ⟨S - 2, by omega⟩
    obtain ⟨a, ha, ea⟩ := hB.2.2.1 B (by omega)
    obtain ⟨b, hb, eb⟩ := hB.2.2.1 (B + 1) (by omega)
    have hz : sc_sum (fun j => sz (sk (B + j)).toNatClampNeg) 2 = sz a + sz b := by
      show 0 + sz (sk (B + 0)).toNatClampNeg + sz (sk (B + 1)).toNatClampNeg = sz a + sz b
      rw [Nat.add_zero, ea, eb, nI_clamp (by omega), nI_clamp (by omega), Nat.zero_add]
    have hle : sz a + sz b ≤ N := by
      have := hB.2.2.2
      rw [sc_sum_add, hz] at this
      omega
    obtain ⟨q1, q2⟩ := sc_b2 B
    refine xw_at (k := 1) (j := B) (by omega) (by omega) ea (by omega) (xw_at (k := 0) (j := B + 1) (by omega) (by omega) eb (by omega) (nm_e (xw_node2 h (by omega) ?_)))
    unfold wpY_pushApp
    dsimp only
    rw [q1, q2]
    refine br_t (nI_le (a := 2) (b := B + 2) h1 (by omega)) (br_t (nI_lt (a := N) (b := 32) h (by omega)) ⟨vp_in_nI (by omega) (by omega), nm_r (e' := nI b) (by rw [nI_clamp (by omega)]; exact eb) ⟨vp_in_nI (by omega) (by omega), nm_r (e' := nI a) (by rw [nI_clamp (by omega)]; exact ea) (nm_e ⟨vp_in_nI (by omega) (by omega), vp_in_nI (by omega) (by omega), ?_⟩)⟩⟩)
    rw [nI_clamp (n := a) (by omega), nI_clamp (n := b) (by omega), ea, eb]
    refine yw_node h (by omega) ⟨rfl, ?_⟩
    refine sc_RLk (N := N + 1) (S := B + 1) (A := A) (P := P) (sz := _) (sc_BA_n (c := 2) (z := 1 + (sz a + sz b)) hB h (by rw [hz]) ⟨⟨by dsimp only; rw [if_pos rfl]; omega, by dsimp only; rw [if_pos rfl]; omega⟩, Or.inr (Or.inr (Or.inr (Or.inl ⟨Or.inl ⟨pk_us, pk_us⟩, a, b, ha, hb, pk_us, pk_us, pk_us, pk_us, by dsimp only; rw [if_pos rfl, if_neg (show ¬ a = N by omega), if_neg (show ¬ b = N by omega)]; omega, fun y hy hf => ?_, fun y hy hf => ?_⟩)))⟩) (sc_HD_n hD)
    · rw [pk_un (by omega)] at hf
      rw [pk_us, b_or, hf, Bool.true_or]
    · rw [pk_un (by omega)] at hf
      rw [pk_us, b_or, hf, Bool.or_true]
theorem i_vc_pushPrim {k : Nat} {u : SX} {v : SY} (I : i_Rel k u v) (hk : k + 3 ≤ 1539) (v1 : Int32) : wpX_pushPrim (fun r u' => wpY_pushPrim (fun r' v' => r' = r ∧ i_Rel (k + 3) u' v') v v1) u v1 := by
  have I0 := i_up I
  refine sc_RL_e I (fun hk hv st ev cu ec va vc dp rc hK hV ct wt lc yc rK rV nk nl n2 k1 k2 k3 nf sk en fk fn fl fm iu sl sw sm rs Nk N2 C1 C2 C3 cl ck cv mk wk rm gk gn ge gv gp gq yk yv sp ye F L D N S A P sz qu qv hB hD => ?_)
  clear I
  subst qu qv
  have hN := hB.1.2.2.2.2.1
  have hS := hB.1.2.2.2.2.2.1
  unfold wpX_pushPrim
  by_cases g0 : v1 < 0
  · refine br_t g0 ?_
    unfold wpY_pushPrim
    exact br_t g0 ⟨rfl, I0⟩
  by_cases g4 : 4 < v1
  · refine br_f g0 (br_t g4 ?_)
    unfold wpY_pushPrim
    exact br_f g0 (br_f (Int32.not_le.mpr g4) ⟨rfl, I0⟩)
  refine br_f g0 (br_f g4 (xw_can (k := 2) (by omega) hN (by omega) (fun h => br_t rfl ?_) (fun h1 h => br_t rfl ?_) (fun h1 h => br_f (by decide) ?_)))
  · unfold wpY_pushPrim
    exact br_f g0 (br_t (Int32.not_lt.mp g4) (br_f (nI_ge (a := S) (b := 2) h (by omega)) ⟨rfl, I0⟩))
  · unfold wpY_pushPrim
    exact br_f g0 (br_t (Int32.not_lt.mp g4) (br_t (nI_le (a := 2) (b := S) h1 (by omega)) (br_f (fun z => absurd ((nI_ltI (a := N) (b := 32) (by omega) (by omega)).mp z) (by omega)) ⟨rfl, I0⟩)))
  · obtain ⟨B, rfl⟩ : ∃ B, S = B + 2 := ⟨S - 2, by omega⟩
    obtain ⟨a, ha, ea⟩ := hB.2.2.1 B (by omega)
    obtain ⟨b, hb, eb⟩ := hB.2.2.1 (B + 1) (by omega)
    have hz : sc_sum (fun j => sz (sk (B + j)).toNatClampNeg) 2 = sz a + sz b := by
      show 0 + sz (sk (B + 0)).toNatClampNeg + sz (sk (B + 1)).toNatClampNeg = sz a + sz b
      rw [Nat.add_zero, ea, eb, nI_clamp (by omega), nI_clamp (by omega), Nat.zero_add]
    have hle : sz a + sz b ≤ N := by
      have := hB.2.2.2
      rw [sc_sum_add, hz] at this
      omega
    obtain ⟨q1, q2⟩ := sc_b2 B
    refine xw_at (k := 1) (j := B) (by omega) (by omega) ea (by omega) (xw_at (k := 0) (j := B + 1) (by omega) (by omega) eb (by omega) (nm_e (xw_node2 h (by omega) ?_)))
    unfold wpY_pushPrim
    dsimp only
    rw [q1, q2]
    refine br_f g0 (br_t (Int32.not_lt.mp g4) (br_t (nI_le (a := 2) (b := B + 2) h1 (by omega)) (br_t (nI_lt (a := N) (b := 32) h (by omega)) ⟨vp_in_nI (by omega) (by omega), nm_r (e' := nI b) (by rw [nI_clamp (by omega)]; exact eb) ⟨vp_in_nI (by omega) (by omega), nm_r (e' := nI a) (by rw [nI_clamp (by omega)]; exact ea) (nm_e ⟨vp_in_nI (by omega) (by omega), vp_in_nI (by omega) (by omega), ?_⟩)⟩⟩)))
    rw [nI_clamp (n := a) (by omega), nI_clamp (n := b) (by omega), ea, eb]
    refine yw_node h (by omega) ⟨rfl, ?_⟩
    refine sc_RLk (N := N + 1) (S := B + 1) (A := A) (P := P) (sz := _) (sc_BA_n (c := 2) (z := 1 + (sz a + sz b)) hB h (by rw [hz]) ⟨⟨by dsimp only; rw [if_pos rfl]; omega, by dsimp only; rw [if_pos rfl]; omega⟩, Or.inr (Or.inr (Or.inr (Or.inl ⟨Or.inr ⟨pk_us, pk_us⟩, a, b, ha, hb, pk_us, pk_us, pk_us, pk_us, by dsimp only; rw [if_pos rfl, if_neg (show ¬ a = N by omega), if_neg (show ¬ b = N by omega)]; omega, fun y hy hf => ?_, fun y hy hf => ?_⟩)))⟩) (sc_HD_n hD)
    · rw [pk_un (by omega)] at hf
      rw [pk_us, b_or, hf, Bool.true_or]
    · rw [pk_un (by omega)] at hf
      rw [pk_us, b_or, hf, Bool.or_true]
theorem i_vc_pushLet {k : Nat} {u : SX} {v : SY} (I : i_Rel k u v) (hk : k + 3 ≤ 1539) (v1 : Int32) : wpX_pushLet (fun r u' => wpY_pushLet (fun r' v' => r' = r ∧ i_Rel (k + 3) u' v') v v1) u v1 := by
  have I0 := i_up I
  refine sc_RL_e I (fun hk hv st ev cu ec va vc dp rc hK hV ct wt lc yc rK rV nk nl n2 k1 k2 k3 nf sk en fk fn fl fm iu sl sw sm rs Nk N2 C1 C2 C3 cl ck cv mk wk rm gk gn ge gv gp gq yk yv sp ye F L D N S A P sz qu qv hB hD => ?_)
  clear I
  subst qu qv
  have hN := hB.1.2.2.2.2.1
  have hS := hB.1.2.2.2.2.2.1
  unfold wpX_pushLet
  refine xw_var (fun x hx e => br_f (by decide) ?_) (fun h => br_t rfl ?_)
  · subst e
    refine xw_can (k := 2) (by omega) hN (by omega) (fun h => br_t rfl ?_) (fun h1 h => br_t rfl ?_) (fun h1 h => br_f (by decide) ?_)
    · unfold wpY_pushLet
      exact sc_is8 hx (br_f (nI_ge (a := S) (b := 2) h (by omega)) ⟨rfl, I0⟩)
    · unfold wpY_pushLet
      exact sc_is8 hx (br_t (nI_le (a := 2) (b := S) h1 (by omega)) (br_f (fun z => absurd ((nI_ltI (a := N) (b := 32) (by omega) (by omega)).mp z) (by omega)) ⟨rfl, I0⟩))
    · obtain ⟨B, rfl⟩ : ∃ B, S = B + 2 := ⟨S - 2, by omega⟩
      obtain ⟨a, ha, ea⟩ := hB.2.2.1 B (by omega)
      obtain ⟨b, hb, eb⟩ := hB.2.2.1 (B + 1) (by omega)
      have hz : sc_sum (fun j => sz (sk (B + j)).toNatClampNeg) 2 = sz a + sz b := by
        show 0 + sz (sk (B + 0)).toNatClampNeg + sz (sk (B + 1)).toNatClampNeg = sz a + sz b
        rw [Nat.add_zero, ea, eb, nI_clamp (by omega), nI_clamp (by omega), Nat.zero_add]
      have hle : sz a + sz b ≤ N := by
        have := hB.2.2.2
        rw [sc_sum_add, hz] at this
        omega
      obtain ⟨q1, q2⟩ := sc_b2 B
      refine xw_at (k := 1) (j := B) (by omega) (by omega) ea (by omega) (xw_at (k := 0) (j := B + 1) (by omega) (by omega) eb (by omega) (nm_e (xw_node2 h (by omega) ?_)))
      unfold wpY_pushLet
      dsimp only
      rw [q1, q2]
      refine sc_is8 hx (br_t (nI_le (a := 2) (b := B + 2) h1 (by omega)) (br_t (nI_lt (a := N) (b := 32) h (by omega)) ⟨vp_in_nI (by omega) (by omega), nm_r (e' := nI b) (by rw [nI_clamp (by omega)]; exact eb) ⟨vp_in_nI (by omega) (by omega), nm_r (e' := nI a) (by rw [nI_clamp (by omega)]; exact ea) (nm_e ⟨vp_in_nI (by omega) (by omega), vp_in_nI (by omega) (by omega), ?_⟩)⟩⟩))
      rw [nI_clamp (n := a) (by omega), nI_clamp (n := b) (by omega), ea, eb]
      refine yw_node h (by omega) ⟨rfl, ?_⟩
      refine sc_RLk (N := N + 1) (S := B + 1) (A := A) (P := P) (sz := _) (sc_BA_n (c := 2) (z := 1 + (sz a + sz b)) hB h (by rw [hz]) ⟨⟨by dsimp only; rw [if_pos rfl]; omega, by dsimp only; rw [if_pos rfl]; omega⟩, Or.inr (Or.inr (Or.inr (Or.inr (Or.inr (Or.inl ⟨pk_us, pk_us, x, a, b, hx, ha, hb, pk_us, pk_us, pk_us, pk_us, pk_us, by dsimp only; rw [if_pos rfl, if_neg (show ¬ a = N by omega), if_neg (show ¬ b = N by omega)]; omega, fun y hy hf => ?_, fun y hy hf hne => ?_⟩)))))⟩) (sc_HD_n hD)
      · rw [pk_un (by omega)] at hf
        rw [pk_us, b_or, hf, Bool.true_or]
      · rw [pk_un (by omega)] at hf
        rw [pk_us, b_or, sc_bc hx (by omega), hf]
        simp [hne]
  · unfold wpY_pushLet
    exact sc_not8 h ⟨rfl, I0⟩
theorem i_vc_pushIf {k : Nat} {u : SX} {v : SY} (I : i_Rel k u v) (hk : k + 3 ≤ 1539) : wpX_pushIf (fun r u' => wpY_pushIf (fun r' v' => r' = r ∧ i_Rel (k + 3) u' v') v) u := by
  have I0 := i_up I
  refine sc_RL_e I (fun hk hv st ev cu ec va vc dp rc hK hV ct wt lc yc rK rV nk nl n2 k1 k2 k3 nf sk en fk fn fl fm iu sl sw sm rs Nk N2 C1 C2 C3 cl ck cv mk wk rm gk gn ge gv gp gq yk yv sp ye F L D N S A P sz qu qv hB hD => ?_)
  clear I
  subst qu qv
  have hN := hB.1.2.2.2.2.1
  have hS := hB.1.2.2.2.2.2.1
  unfold wpX_pushIf
  refine xw_can (k := 3) (by omega) hN (by omega) (fun h => br_t rfl ?_) (fun h1 h => br_t rfl ?_) (fun h1 h => br_f (by decide) ?_)
  · unfold wpY_pushIf
    exact br_f (nI_ge (a := S) (b := 3) h (by omega)) ⟨rfl, I0⟩
  · unfold wpY_pushIf
    exact br_t (nI_le (a := 3) (b := S) h1 (by omega)) (br_f (fun z => absurd ((nI_ltI (a := N) (b := 32) (by omega) (by omega)).mp z) (by omega)) ⟨rfl, I0⟩)
  · obtain ⟨B, rfl⟩ : ∃ B, S = B + 3 := ⟨S - 3, by omega⟩
    obtain ⟨a, ha, ea⟩ := hB.2.2.1 B (by omega)
    obtain ⟨b, hb, eb⟩ := hB.2.2.1 (B + 1) (by omega)
    obtain ⟨e, he, ee⟩ := hB.2.2.1 (B + 2) (by omega)
    have hz : sc_sum (fun j => sz (sk (B + j)).toNatClampNeg) 3 = sz a + sz b + sz e := by
      show 0 + sz (sk (B + 0)).toNatClampNeg + sz (sk (B + 1)).toNatClampNeg + sz (sk (B + 2)).toNatClampNeg = sz a + sz b + sz e
      rw [Nat.add_zero, ea, eb, ee, nI_clamp (by omega), nI_clamp (by omega), nI_clamp (by omega), Nat.zero_add]
    have hle : sz a + sz b + sz e ≤ N := by
      have := hB.2.2.2
      rw [sc_sum_add, hz] at this
      omega
    obtain ⟨q1, q2, q3⟩ := sc_b3 B
    refine xw_at (k := 2) (j := B) (by omega) (by omega) ea (by omega) (xw_at (k := 1) (j := B + 1) (by omega) (by omega) eb (by omega) (xw_at (k := 0) (j := B + 2) (by omega) (by omega) ee (by omega) (nm_e (xw_node3 h (by omega) ?_))))
    unfold wpY_pushIf
    dsimp only
    rw [q1, q2, q3]
    refine br_t (nI_le (a := 3) (b := B + 3) h1 (by omega)) (br_t (nI_lt (a := N) (b := 32) h (by omega)) ⟨vp_in_nI (by omega) (by omega), nm_r (e' := nI e) (by rw [nI_clamp (by omega)]; exact ee) ⟨vp_in_nI (by omega) (by omega), nm_r (e' := nI b) (by rw [nI_clamp (by omega)]; exact eb) ⟨vp_in_nI (by omega) (by omega), nm_r (e' := nI a) (by rw [nI_clamp (by omega)]; exact ea) (nm_e ⟨vp_in_nI (by omega) (by omega), vp_in_nI (by omega) (by omega), vp_in_nI (by omega) (by omega), ?_⟩)⟩⟩⟩)
    rw [nI_clamp (n := a) (by omega), nI_clamp (n := b) (by omega), nI_clamp (n := e) (by omega), ea, eb, ee]
    refine yw_node h (by omega) ⟨rfl, ?_⟩
    refine sc_RLk (N := N + 1) (S := B + 1) (A := A) (P := P) (sz := _) (sc_BA_n (c := 3) (z := 1 + (sz a + sz b + sz e)) hB h (by rw [hz]) ⟨⟨by dsimp only; rw [if_pos rfl]; omega, by dsimp only; rw [if_pos rfl]; omega⟩, Or.inr (Or.inr (Or.inr (Or.inr (Or.inl ⟨pk_us, pk_us, a, b, e, ha, hb, he, pk_us, pk_us, pk_us, pk_us, pk_us, pk_us, by dsimp only; rw [if_pos rfl, if_neg (show ¬ a = N by omega), if_neg (show ¬ b = N by omega), if_neg (show ¬ e = N by omega)]; omega, fun y hy hf => ?_, fun y hy hf => ?_, fun y hy hf => ?_⟩))))⟩) (sc_HD_n hD)
    · rw [pk_un (by omega)] at hf
      rw [pk_us, b_or, b_or, hf, Bool.true_or, Bool.true_or]
    · rw [pk_un (by omega)] at hf
      rw [pk_us, b_or, b_or, hf, Bool.or_true, Bool.true_or]
    · rw [pk_un (by omega)] at hf
      rw [pk_us, b_or, b_or, hf, Bool.or_true]
