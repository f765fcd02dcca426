/-! ===== pushLetrec ===== -/
theorem sc_fv2 (a b e p q : Int32) : ((a ||| e) ||| b) &&& ((p ||| q) ^^^ (-1)) = (((a ||| b) ||| e) &&& (p ^^^ (-1))) &&& (q ^^^ (-1)) := by
  apply b_ext
  intro i hi
  simp only [b_and, b_or, b_xor, b_m1 i hi]
  cases bt a i <;> cases bt b i <;> cases bt e i <;> cases bt p i <;> cases bt q i <;> rfl
theorem sc_nd_l {sz : Nat → Nat} {kd lb s2 c1 c2 c3 fv kd' a2' c1' c2' c3' : Nat → Int32} {i : Nat} (h : sc_nd sz kd lb s2 c1 c2 c3 fv kd' a2' c1' c2' c3' i) : kd i = 2 ↔ kd' i = 3 := by
  obtain ⟨_, h⟩ := h
  rcases h with h | h | h | h | h | h | h | h
  · rw [h.1, h.2]; decide
  · rw [h.1, h.2.1]; decide
  · rw [h.1, h.2.1]; decide
  · rcases h.1 with h | h <;> rw [h.1, h.2] <;> decide
  · rw [h.1, h.2.1]; decide
  · rw [h.1, h.2.1]; decide
  · rw [h.1, h.2.1]; decide
  · rw [h.1, h.2.1]; decide
theorem i_vc_pushLetrec {k : Nat} {u : SX} {v : SY} (I : i_Rel k u v) (hk : k + 3 ≤ 1539) (v1 : Int32) (v2 : Int32) : wpX_pushLetrec (fun r u' => wpY_pushLetrec (fun r' v' => r' = r ∧ i_Rel (k + 3) u' v') v v1 v2) u v1 v2 := by
  have I0 := i_up I
  refine sc_RL_e I (fun hk hv st ev cu ec va vc dp rc hK hV ct wt lc yc rK rV nk nl n2 k1 k2 k3 nf sk en fk fn fl fm iu sl sw sm rs Nk N2 C1 C2 C3 cl ck cv mk wk rm gk gn ge gv gp gq yk yv sp ye F L D N S A P sz qu qv hB hD => ?_)
  clear I
  subst qu qv
  have hN := hB.1.2.2.2.2.1
  have hS := hB.1.2.2.2.2.2.1
  unfold wpX_pushLetrec
  refine xw_var (fun x hx e => br_f (by decide) ?_) (fun h => br_t rfl ?_)
  rotate_left
  · unfold wpY_pushLetrec
    exact sc_not8 h ⟨rfl, I0⟩
  subst e
  by_cases h2 : v2 = -1
  · subst h2
    refine br_t rfl ?_
    have hne : ¬ (-1 : Int32) = nI x := fun z => absurd (show nI x < 0 by rw [← z]; decide) (nI_pos (by omega))
    unfold wpX_pushLetrecOne
    refine xw_can (k := 2) (by omega) hN (by omega) (fun h => br_t rfl ?_) (fun h1 h => br_t rfl ?_) (fun h1 h => br_f (by decide) ?_)
    · exact sc_is8 hx (br_t rfl (br_t rfl (br_f hne (br_t rfl (br_f (nI_ge (a := S) (b := 2) h (by omega)) ⟨rfl, I0⟩)))))
    · obtain ⟨B, rfl⟩ : ∃ B, S = B + 2 := ⟨S - 2, by omega⟩
      obtain ⟨a, ha, ea⟩ := hB.2.2.1 B (by omega)
      obtain ⟨b, hb, eb⟩ := hB.2.2.1 (B + 1) (by omega)
      obtain ⟨q1, q2⟩ := sc_b2 B
      refine sc_is8 hx (br_t rfl (br_t rfl (br_f hne (br_t rfl (br_t (nI_le (a := 2) (b := B + 2) h1 (by omega)) ⟨pk_in (B + 1) 32 (by omega) q1, nm_r (e' := nI b) (by rw [q1, nI_clamp (by omega)]; exact eb) (br_t rfl ⟨pk_in B 32 (by omega) q2, nm_r (e' := nI a) (by rw [q2, nI_clamp (by omega)]; exact ea) ⟨vp_in_nI (by omega) (by omega), br_c (fun _ => br_t rfl (br_f (fun z => absurd ((nI_ltI (a := N) (b := 32) (by omega) (by omega)).mp z) (by omega)) ⟨rfl, I0⟩)) (fun _ => ⟨rfl, I0⟩)⟩⟩)⟩)))))
    · obtain ⟨B, rfl⟩ : ∃ B, S = B + 2 := ⟨S - 2, by omega⟩
      obtain ⟨a, ha, ea⟩ := hB.2.2.1 B (by omega)
      obtain ⟨b, hb, eb⟩ := hB.2.2.1 (B + 1) (by omega)
      obtain ⟨q1, q2⟩ := sc_b2 B
      have hl := sc_nd_l (hB.2.1 a ha)
      refine xw_lam (k := 1) (j := B) (by omega) (by omega) ea (by omega) (fun hlam => br_f (by decide) ?_) (fun hlam => br_t rfl ?_)
      rotate_left
      · exact sc_is8 hx (br_t rfl (br_t rfl (br_f hne (br_t rfl (br_t (nI_le (a := 2) (b := B + 2) h1 (by omega)) ⟨pk_in (B + 1) 32 (by omega) q1, nm_r (e' := nI b) (by rw [q1, nI_clamp (by omega)]; exact eb) (br_t rfl ⟨pk_in B 32 (by omega) q2, nm_r (e' := nI a) (by rw [q2, nI_clamp (by omega)]; exact ea) ⟨vp_in_nI (by omega) (by omega), br_f (by rw [nI_clamp (by omega)]; exact fun z => hlam (hl.mpr z)) ⟨rfl, I0⟩⟩⟩)⟩)))))
      have hz : sc_sum (fun j => sz (sk (B + j)).toNatClampNeg) 2 = sz a + sz b := by
        show 0 + sz (sk (B + 0)).toNatClampNeg + sz (sk (B + 1)).toNatClampNeg = sz a + sz b
        rw [Nat.add_zero, ea, eb, nI_clamp (by omega), nI_clamp (by omega), Nat.zero_add]
      have hle : sz a + sz b ≤ N := by
        have := hB.2.2.2
        rw [sc_sum_add, hz] at this
        omega
      refine xw_at (k := 1) (j := B) (by omega) (by omega) ea (by omega) (xw_at (k := 0) (j := B + 1) (by omega) (by omega) eb (by omega) (nm_e (xw_node2 h (by omega) ?_)))
      refine sc_is8 hx (br_t rfl (br_t rfl (br_f hne (br_t rfl (br_t (nI_le (a := 2) (b := B + 2) h1 (by omega)) ⟨pk_in (B + 1) 32 (by omega) q1, nm_r (e' := nI b) (by rw [q1, nI_clamp (by omega)]; exact eb) (br_t rfl ⟨pk_in B 32 (by omega) q2, nm_r (e' := nI a) (by rw [q2, nI_clamp (by omega)]; exact ea) ⟨vp_in_nI (by omega) (by omega), br_t (by rw [nI_clamp (by omega)]; exact hl.mp hlam) (br_t rfl (br_t (nI_lt (a := N) (b := 32) h (by omega)) (nm_r q2 (nm_e ⟨vp_in_nI (by omega) (by omega), vp_in_nI (by omega) (by omega), nm_r (e' := nf a ||| nf b) (by rw [nI_clamp (n := a) (by omega), nI_clamp (n := b) (by omega)]) (br_t rfl ?_)⟩))))⟩⟩)⟩)))))
      unfold wY_pushLetrec_214
      rw [ea, eb]
      refine yw_node h (by omega) ⟨rfl, ?_⟩
      refine sc_RLk (N := N + 1) (S := B + 1) (A := A) (P := P) (sz := _) (sc_BA_n (c := 2) (z := 1 + (sz a + sz b)) hB h (by rw [hz]) ⟨⟨by dsimp only; rw [if_pos rfl]; omega, by dsimp only; rw [if_pos rfl]; omega⟩, Or.inr (Or.inr (Or.inr (Or.inr (Or.inr (Or.inr (Or.inl ⟨pk_us, pk_us, x, a, b, hx, ha, hb, pk_us, by rw [pk_un (by omega)]; exact hlam, pk_us, pk_us, pk_us, pk_us, pk_us, by dsimp only; rw [if_pos rfl, if_neg (show ¬ a = N by omega), if_neg (show ¬ b = N by omega)]; omega, fun y hy hf hne => ?_, fun y hy hf hne => ?_⟩))))))⟩) (sc_HD_n hD)
      · rw [pk_un (by omega)] at hf
        rw [pk_us, sc_bc hx (by omega), b_or, hf, Bool.true_or]
        simp [hne]
      · rw [pk_un (by omega)] at hf
        rw [pk_us, sc_bc hx (by omega), b_or, hf, Bool.or_true]
        simp [hne]
  · refine br_f h2 (xw_var (fun z hz8 e => br_f (by decide) ?_) (fun h => br_t rfl ?_))
    rotate_left
    · refine sc_is8 hx (br_f h2 (br_f (by decide) (sc_not8 h ⟨rfl, I0⟩)))
    subst e
    have zz : ∀ {A B : Prop}, B → (nI z < 0 → A) ∧ (¬ nI z < 0 → ((nI z ≤ 7 → B) ∧ (¬ nI z ≤ 7 → A))) := fun b => sc_is8 hz8 b
    by_cases hzx : nI z = nI x
    · refine br_t hzx ?_
      exact sc_is8 hx (br_f h2 (br_f (by decide) (zz (br_t hzx ⟨rfl, I0⟩))))
    · refine br_f hzx ?_
      have nzx : x ≠ z := fun e => hzx (by rw [e])
      unfold wpX_pushLetrecTwo
      refine xw_can (k := 3) (by omega) hN (by omega) (fun h => br_t rfl ?_) (fun h1 h => br_t rfl ?_) (fun h1 h => br_f (by decide) ?_)
      · exact sc_is8 hx (br_f h2 (br_f (by decide) (zz (br_f hzx (br_f (by decide) (br_f (nI_ge (a := S) (b := 3) h (by omega)) ⟨rfl, I0⟩))))))
      · obtain ⟨B, rfl⟩ : ∃ B, S = B + 3 := ⟨S - 3, by omega⟩
        obtain ⟨a, ha, ea⟩ := hB.2.2.1 B (by omega)
        obtain ⟨b, hb, eb⟩ := hB.2.2.1 (B + 1) (by omega)
        obtain ⟨e, he, ee⟩ := hB.2.2.1 (B + 2) (by omega)
        obtain ⟨q1, q2, q3⟩ := sc_b3 B
        exact sc_is8 hx (br_f h2 (br_f (by decide) (zz (br_f hzx (br_f (by decide) (br_t (nI_le (a := 3) (b := B + 3) h1 (by omega)) ⟨pk_in (B + 2) 32 (by omega) q1, nm_r (e' := nI e) (by rw [q1, nI_clamp (by omega)]; exact ee) (br_f (by decide) ⟨pk_in (B + 1) 32 (by omega) q2, pk_in B 32 (by omega) q3, nm_r (e' := nI a) (by rw [q3, nI_clamp (by omega)]; exact ea) ⟨vp_in_nI (by omega) (by omega), br_c (fun _ => br_f (by decide) ⟨by rw [q2, nI_clamp (n := B + 1) (by omega), eb]; exact vp_in_nI (by omega) (by omega), br_c (fun _ => br_f (fun z => absurd ((nI_ltI (a := N) (b := 32) (by omega) (by omega)).mp z) (by omega)) ⟨rfl, I0⟩) (fun _ => ⟨rfl, I0⟩)⟩) (fun _ => ⟨rfl, I0⟩)⟩⟩)⟩))))))
      · obtain ⟨B, rfl⟩ : ∃ B, S = B + 3 := ⟨S - 3, by omega⟩
        obtain ⟨a, ha, ea⟩ := hB.2.2.1 B (by omega)
        obtain ⟨b, hb, eb⟩ := hB.2.2.1 (B + 1) (by omega)
        obtain ⟨e, he, ee⟩ := hB.2.2.1 (B + 2) (by omega)
        obtain ⟨q1, q2, q3⟩ := sc_b3 B
        have hl := sc_nd_l (hB.2.1 a ha)
        have hm := sc_nd_l (hB.2.1 b hb)
        have Yh : ∀ post : Int32 → SY → Prop, ((Nk a = 3 → (Nk b = 3 → wY_pushLetrec_146 post (nI x) (nI z) 1 3 (nI e) (nI b) (nI a) (nI F) (nI L) (nI D) (nI N) (nI (B + 3)) hK hV (nI A) (nI P) ct wt lc sp ye yc rK rV Nk nl N2 C1 C2 C3 nf sk cl ck cv mk wk rm gk gn ge gv gp gq yk yv 32768 32768) ∧ (¬ Nk b = 3 → post (-1) (nI F, nI L, nI D, nI N, nI (B + 3), hK, hV, nI A, nI P, ct, wt, lc, sp, ye, yc, rK, rV, Nk, nl, N2, C1, C2, C3, nf, sk, cl, ck, cv, mk, wk, rm, gk, gn, ge, gv, gp, gq, yk, yv, 32768, 32768))) ∧ (¬ Nk a = 3 → post (-1) (nI F, nI L, nI D, nI N, nI (B + 3), hK, hV, nI A, nI P, ct, wt, lc, sp, ye, yc, rK, rV, Nk, nl, N2, C1, C2, C3, nf, sk, cl, ck, cv, mk, wk, rm, gk, gn, ge, gv, gp, gq, yk, yv, 32768, 32768))) → wpY_pushLetrec post (nI F, nI L, nI D, nI N, nI (B + 3), hK, hV, nI A, nI P, ct, wt, lc, sp, ye, yc, rK, rV, Nk, nl, N2, C1, C2, C3, nf, sk, cl, ck, cv, mk, wk, rm, gk, gn, ge, gv, gp, gq, yk, yv, 32768, 32768) (nI x) (nI z) := by
          intro post hp
          have eb' : sk (nI (B + 3) - 2).toNatClampNeg = nI b := by rw [q2, nI_clamp (by omega)]; exact eb
          refine sc_is8 hx (br_f h2 (br_f (by decide) (zz (br_f hzx (br_f (by decide) (br_t (nI_le (a := 3) (b := B + 3) h1 (by omega)) ⟨pk_in (B + 2) 32 (by omega) q1, nm_r (e' := nI e) (by rw [q1, nI_clamp (by omega)]; exact ee) (br_f (by decide) ⟨pk_in (B + 1) 32 (by omega) q2, ?_⟩)⟩))))))
          rw [eb']
          refine ⟨pk_in B 32 (by omega) q3, nm_r (e' := nI a) (by rw [q3, nI_clamp (by omega)]; exact ea) ⟨vp_in_nI (by omega) (by omega), ?_⟩⟩
          rw [nI_clamp (n := a) (by omega), nI_clamp (n := b) (by omega)]
          exact br_c (fun z1 => br_f (by decide) ⟨vp_in_nI (by omega) (by omega), (hp.1 z1).1, (hp.1 z1).2⟩) hp.2
        refine xw_lam (k := 2) (j := B) (by omega) (by omega) ea (by omega) (fun hlam => br_f (by decide) ?_) (fun hlam => br_t rfl ?_)
        rotate_left
        · exact Yh _ ⟨fun z1 => absurd (hl.mpr z1) hlam, fun _ => ⟨rfl, I0⟩⟩
        refine xw_lam (k := 1) (j := B + 1) (by omega) (by omega) eb (by omega) (fun hlam2 => br_f (by decide) ?_) (fun hlam2 => br_t rfl ?_)
        rotate_left
        · exact Yh _ ⟨fun _ => ⟨fun z1 => absurd (hm.mpr z1) hlam2, fun _ => ⟨rfl, I0⟩⟩, fun z1 => absurd (hl.mp hlam) z1⟩
        have hz : sc_sum (fun j => sz (sk (B + j)).toNatClampNeg) 3 = sz a + sz b + sz e := by
          show 0 + sz (sk (B + 0)).toNatClampNeg + sz (sk (B + 1)).toNatClampNeg + sz (sk (B + 2)).toNatClampNeg = sz a + sz b + sz e
          rw [Nat.add_zero, ea, eb, ee, nI_clamp (by omega), nI_clamp (by omega), nI_clamp (by omega), Nat.zero_add]
        have hle : sz a + sz b + sz e ≤ N := by
          have := hB.2.2.2
          rw [sc_sum_add, hz] at this
          omega
        refine xw_at (k := 2) (j := B) (by omega) (by omega) ea (by omega) (xw_at (k := 1) (j := B + 1) (by omega) (by omega) eb (by omega) (xw_at (k := 0) (j := B + 2) (by omega) (by omega) ee (by omega) (nm_e (xw_node3 h (by omega) ?_))))
        refine Yh _ ⟨fun _ => ⟨fun _ => ?_, fun z1 => absurd (hm.mp hlam2) z1⟩, fun z1 => absurd (hl.mp hlam) z1⟩
        unfold wY_pushLetrec_146
        refine br_t (nI_lt (a := N) (b := 32) h (by omega)) (nm_r q3 (nm_e ⟨vp_in_nI (by omega) (by omega), vp_in_nI (by omega) (by omega), nm_r (e' := nf a ||| nf e) (by rw [nI_clamp (n := a) (by omega), nI_clamp (n := e) (by omega)]) (br_f (by decide) (nm_e ⟨vp_in_nI (by omega) (by omega), nm_r (e' := (nf a ||| nf e) ||| nf b) (by rw [nI_clamp (n := b) (by omega)]) ?_⟩))⟩))
        unfold wY_pushLetrec_214
        rw [sc_fv2, ea, eb, ee]
        refine yw_node h (by omega) ⟨rfl, ?_⟩
        refine sc_RLk (N := N + 1) (S := B + 1) (A := A) (P := P) (sz := _) (sc_BA_n (c := 3) (z := 1 + (sz a + sz b + sz e)) hB h (by rw [hz]) ⟨⟨by dsimp only; rw [if_pos rfl]; omega, by dsimp only; rw [if_pos rfl]; omega⟩, Or.inr (Or.inr (Or.inr (Or.inr (Or.inr (Or.inr (Or.inr ⟨pk_us, pk_us, x, z, a, b, e, hx, hz8, nzx, ha, hb, he, pk_us, pk_us, pk_us, by rw [pk_un (by omega)]; exact hlam, by rw [pk_un (by omega)]; exact hlam2, pk_us, pk_us, pk_us, pk_us, pk_us, pk_us, by dsimp only; rw [if_pos rfl, if_neg (show ¬ a = N by omega), if_neg (show ¬ b = N by omega), if_neg (show ¬ e = N by omega)]; omega, fun y hy hf n1 n2 => ?_, fun y hy hf n1 n2 => ?_, fun y hy hf n1 n2 => ?_⟩))))))⟩) (sc_HD_n hD)
        · rw [pk_un (by omega)] at hf
          rw [pk_us, sc_bc hz8 (by omega), sc_bc hx (by omega), b_or, b_or, hf]
          simp [n1, n2]
        · rw [pk_un (by omega)] at hf
          rw [pk_us, sc_bc hz8 (by omega), sc_bc hx (by omega), b_or, b_or, hf]
          simp [n1, n2]
        · rw [pk_un (by omega)] at hf
          rw [pk_us, sc_bc hz8 (by omega), sc_bc hx (by omega), b_or, b_or, hf]
          simp [n1, n2]
