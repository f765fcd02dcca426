/-! ===== the steps of RETURN, both sides ===== -/
section
variable {fu ll dl nc ss hk hv ca pk st ev cu ec va vc dp rc hK hV ct wt lc yc rK rV : Int32} {nk nl n2 k1 k2 k3 nf sk en fk fn fl fm iu sl sw sm rs Nk N2 C1 C2 C3 cl ck cv mk wk rm gk gn ge gv gp gq yk yv : Nat → Int32}
variable {F L D N S A P T d n w Q M : Nat} {sz g : Nat → Nat} {U : Nat → Prop} {c : Bool}
/-- a frame's row, loaded -/
theorem sc_row3 {m : Int32} (h : sc_RW g U m (fun y => fl (d * 8 + y)) (fm d) (fun y => ge (d * 8 + y)) (fun y => gv (d * 8 + y))) : sc_RW g U m (sc_wr en 0 (fun y => fl (d * 8 + y)) 8) (fm d) (sc_wr yk 0 (fun y => ge (d * 8 + y)) 8) (sc_wr yv 0 (fun y => gv (d * 8 + y)) 8) := sc_RW_c h (fun _ hy => sc_wr_z hy) (fun _ hy => sc_wr_z hy) (fun _ hy => sc_wr_z hy)
theorem sr_arg {b : Nat} (hB : sc_BA F L D N S A P sz nk nl n2 k1 k2 k3 nf sk Nk N2 C1 C2 C3) (hd : d < 32) (hM : M = (w + Q) + 93 * (F - A)) (hT : 3 * T + M ≤ 9600) (hb : sc_HB g U iu T) (hn : ∀ s, U s → sc_HN g U N nk nf sl sw sm cl ck cv s) (hF : sc_FS (sc_FO g U N sz nl k2 k3 nf C2 C3 fk fn fl fm gk gn ge gv gp gq) d Q) (hI : sc_IU 32 iu) (hV : sc_VR g U va c rK rV) (hnN : n < N) (f1 : fn d = nI n) (f2 : gn d = nI n) (k0 : fk d = 0) (k0' : gk d = 1) (hbN : b < N) (e2 : k2 n = nI b) (e4 : C2 n = nI b) (hw : w = 3 * sz b + 2) (hR : sc_RW g U (nf b) (fun y => fl (d * 8 + y)) (fm d) (fun y => ge (d * 8 + y)) (fun y => gv (d * 8 + y))) : ∃ u1 v1 r, (∀ post : SX → Prop, post u1 → wpX_returnStep post (nI F, nI L, nI D, nI N, nI S, 0, 0, nI A, nI P, -2, 0, cu, ec, va, sc_bi c, nI (d + 1), rc, nk, nl, n2, k1, k2, k3, nf, sk, en, fk, fn, fl, fm, iu, sl, sw, sm, rs)) ∧ (∀ post : Int32 → SY → Prop, post r v1 → wpY_returnStep post (nI F, nI L, nI D, nI N, nI S, 0, 0, nI A, nI P, nI T, wt, lc, nI (d + 1), 0, yc, rK, rV, Nk, nl, N2, C1, C2, C3, nf, sk, cl, ck, cv, mk, wk, rm, gk, gn, ge, gv, gp, gq, yk, yv, 32768, 32768)) ∧ sc_SR M r u1 v1 := by
  have hN := hB.1.2.2.2.2.1
  refine ⟨(nI F, nI L, nI D, nI N, nI S, 0, 0, nI A, nI P, -2, 1, nI b, fm d, va, sc_bi c, nI (d + 1), rc, nk, nl, n2, k1, k2, k3, nf, sk, sc_wr en 0 (fun y => fl (d * 8 + y)) 8, upd fk d 1, fn, upd fl (d * 8) va, upd fm d (sc_bi c), iu, sl, sw, sm, rs), (nI F, nI L, nI D, nI N, nI S, 0, 0, nI A, nI P, nI T, wt, lc, nI (d + 1), 1, nI b, rK, rV, Nk, nl, N2, C1, C2, C3, nf, sk, cl, ck, cv, mk, wk, rm, upd gk d 2, gn, ge, gv, upd gp d rK, upd gq d rV, sc_wr yk 0 (fun y => ge (d * 8 + y)) 8, sc_wr yv 0 (fun y => gv (d * 8 + y)) 8, 32768, 32768), -2, fun post h => ?_, fun post h => ?_, Or.inl ⟨rfl, 3 * sz b + (1 + Q) + 93 * (F - A), by omega, ?_⟩⟩
  · unfold wpX_returnStep
    refine br_t (nI_lt (a := 0) (b := d + 1) (by omega) (by omega)) (nm_r (nI_pred d) ⟨vp_in_nI (by omega) (by omega), nm_r (e' := nI n) (by rw [nI_clamp (n := d) (by omega)]; exact f1) ⟨vp_in_nI (by omega) (by omega), nm_r (e' := 0) (by rw [nI_clamp (n := d) (by omega)]; exact k0) (br_f (by decide) (br_f (by decide) (br_t rfl ?_)))⟩⟩)
    refine xw_second (by omega) hd ?_
    rw [e2]
    exact h
  · unfold wpY_returnStep
    refine br_f (nI_ne0 (by omega) (by omega)) (nm_r (nI_pred d) ⟨vp_in_nI (by omega) (by omega), nm_r (e' := 1) (by rw [nI_clamp (n := d) (by omega)]; exact k0') ⟨vp_in_nI (by omega) (by omega), nm_r (e' := nI n) (by rw [nI_clamp (n := d) (by omega)]; exact f2) (br_t rfl (br_t rfl ⟨vp_in_nI (by omega) (by omega), nm_r (e' := upd gk d 2) (by rw [nI_clamp (n := d) (by omega)]) ⟨vp_in_nI (by omega) (by omega), nm_r (e' := upd gp d rK) (by rw [nI_clamp (n := d) (by omega)]) ⟨vp_in_nI (by omega) (by omega), nm_r (e' := upd gq d rV) (by rw [nI_clamp (n := d) (by omega)]) (yw_load hd ⟨vp_in_nI (by omega) (by omega), nm_r (e' := nI b) (by rw [nI_clamp (n := n) (by omega)]; exact e4) h⟩)⟩⟩⟩))⟩⟩)
  · refine sc_MRk hB (by omega) rfl (by omega) ⟨hb, hn, 1, Q, ⟨n, hnN, f1, f2, Or.inr (Or.inl ⟨Or.inl ⟨pk_us, pk_us⟩, rfl, c, pk_us, by rw [pk_us, pk_us, pk_us]; exact hV⟩)⟩, rfl, sc_FS_m (fun i v hi h => ?_) hF⟩ hI (Or.inl ⟨rfl, b, hbN, rfl, rfl, rfl, sc_row3 hR⟩)
    have ne : i ≠ d := by omega
    exact sc_FO_c h (pk_un ne) rfl (fun y hy => pk_un (by omega)) (pk_un ne) (pk_un ne) rfl (fun _ _ => rfl) (fun _ _ => rfl) (pk_un ne) (pk_un ne)
theorem sr_left {b : Nat} (hB : sc_BA F L D N S A P sz nk nl n2 k1 k2 k3 nf sk Nk N2 C1 C2 C3) (hd : d < 32) (hM : M = (w + Q) + 93 * (F - A)) (hT : 3 * T + M ≤ 9600) (hb : sc_HB g U iu T) (hn : ∀ s, U s → sc_HN g U N nk nf sl sw sm cl ck cv s) (hF : sc_FS (sc_FO g U N sz nl k2 k3 nf C2 C3 fk fn fl fm gk gn ge gv gp gq) d Q) (hI : sc_IU 32 iu) (hV : sc_VR g U va c rK rV) (hnN : n < N) (f1 : fn d = nI n) (f2 : gn d = nI n) (k0 : fk d = 2) (k0' : gk d = 3) (hbN : b < N) (e2 : k2 n = nI b) (e4 : C2 n = nI b) (hw : w = 3 * sz b + 2) (hR : sc_RW g U (nf b) (fun y => fl (d * 8 + y)) (fm d) (fun y => ge (d * 8 + y)) (fun y => gv (d * 8 + y))) : ∃ u1 v1 r, (∀ post : SX → Prop, post u1 → wpX_returnStep post (nI F, nI L, nI D, nI N, nI S, 0, 0, nI A, nI P, -2, 0, cu, ec, va, sc_bi c, nI (d + 1), rc, nk, nl, n2, k1, k2, k3, nf, sk, en, fk, fn, fl, fm, iu, sl, sw, sm, rs)) ∧ (∀ post : Int32 → SY → Prop, post r v1 → wpY_returnStep post (nI F, nI L, nI D, nI N, nI S, 0, 0, nI A, nI P, nI T, wt, lc, nI (d + 1), 0, yc, rK, rV, Nk, nl, N2, C1, C2, C3, nf, sk, cl, ck, cv, mk, wk, rm, gk, gn, ge, gv, gp, gq, yk, yv, 32768, 32768)) ∧ sc_SR M r u1 v1 := by
  have hN := hB.1.2.2.2.2.1
  refine ⟨(nI F, nI L, nI D, nI N, nI S, 0, 0, nI A, nI P, -2, 1, nI b, fm d, va, sc_bi c, nI (d + 1), rc, nk, nl, n2, k1, k2, k3, nf, sk, sc_wr en 0 (fun y => fl (d * 8 + y)) 8, upd fk d 3, fn, upd fl (d * 8) va, upd fm d (sc_bi c), iu, sl, sw, sm, rs), (nI F, nI L, nI D, nI N, nI S, 0, 0, nI A, nI P, nI T, wt, lc, nI (d + 1), 1, nI b, rK, rV, Nk, nl, N2, C1, C2, C3, nf, sk, cl, ck, cv, mk, wk, rm, upd gk d 4, gn, ge, gv, upd gp d rK, upd gq d rV, sc_wr yk 0 (fun y => ge (d * 8 + y)) 8, sc_wr yv 0 (fun y => gv (d * 8 + y)) 8, 32768, 32768), -2, fun post h => ?_, fun post h => ?_, Or.inl ⟨rfl, 3 * sz b + (1 + Q) + 93 * (F - A), by omega, ?_⟩⟩
  · unfold wpX_returnStep
    refine br_t (nI_lt (a := 0) (b := d + 1) (by omega) (by omega)) (nm_r (nI_pred d) ⟨vp_in_nI (by omega) (by omega), nm_r (e' := nI n) (by rw [nI_clamp (n := d) (by omega)]; exact f1) ⟨vp_in_nI (by omega) (by omega), nm_r (e' := 2) (by rw [nI_clamp (n := d) (by omega)]; exact k0) (br_f (by decide) (br_f (by decide) (br_f (by decide) (br_f (by decide) (br_t rfl ?_)))))⟩⟩)
    refine xw_second (by omega) hd ?_
    rw [e2]
    exact h
  · unfold wpY_returnStep
    refine br_f (nI_ne0 (by omega) (by omega)) (nm_r (nI_pred d) ⟨vp_in_nI (by omega) (by omega), nm_r (e' := 3) (by rw [nI_clamp (n := d) (by omega)]; exact k0') ⟨vp_in_nI (by omega) (by omega), nm_r (e' := nI n) (by rw [nI_clamp (n := d) (by omega)]; exact f2) (br_f (by decide) (br_t rfl (br_f (by decide) ⟨vp_in_nI (by omega) (by omega), nm_r (e' := upd gk d 4) (by rw [nI_clamp (n := d) (by omega)]) ⟨vp_in_nI (by omega) (by omega), nm_r (e' := upd gp d rK) (by rw [nI_clamp (n := d) (by omega)]) ⟨vp_in_nI (by omega) (by omega), nm_r (e' := upd gq d rV) (by rw [nI_clamp (n := d) (by omega)]) (yw_load hd ⟨vp_in_nI (by omega) (by omega), nm_r (e' := nI b) (by rw [nI_clamp (n := n) (by omega)]; exact e4) h⟩)⟩⟩⟩)))⟩⟩)
  · refine sc_MRk hB (by omega) rfl (by omega) ⟨hb, hn, 1, Q, ⟨n, hnN, f1, f2, Or.inr (Or.inl ⟨Or.inr ⟨pk_us, pk_us⟩, rfl, c, pk_us, by rw [pk_us, pk_us, pk_us]; exact hV⟩)⟩, rfl, sc_FS_m (fun i v hi h => ?_) hF⟩ hI (Or.inl ⟨rfl, b, hbN, rfl, rfl, rfl, sc_row3 hR⟩)
    have ne : i ≠ d := by omega
    exact sc_FO_c h (pk_un ne) rfl (fun y hy => pk_un (by omega)) (pk_un ne) (pk_un ne) rfl (fun _ _ => rfl) (fun _ _ => rfl) (pk_un ne) (pk_un ne)
theorem sr_test {b e : Nat} (hB : sc_BA F L D N S A P sz nk nl n2 k1 k2 k3 nf sk Nk N2 C1 C2 C3) (hd : d < 32) (hM : M = (w + Q) + 93 * (F - A)) (hT : 3 * T + M ≤ 9600) (hb : sc_HB g U iu T) (hn : ∀ s, U s → sc_HN g U N nk nf sl sw sm cl ck cv s) (hF : sc_FS (sc_FO g U N sz nl k2 k3 nf C2 C3 fk fn fl fm gk gn ge gv gp gq) d Q) (hI : sc_IU 32 iu) (hV : sc_VR g U va c rK rV) (hnN : n < N) (f1 : fn d = nI n) (f2 : gn d = nI n) (k0 : fk d = 4) (k0' : gk d = 5) (hbN : b < N) (heN : e < N) (e2 : k2 n = nI b) (e4 : C2 n = nI b) (e3 : k3 n = nI e) (e5 : C3 n = nI e) (hw : w = 3 * (sz b + sz e) + 1) (hR : sc_RW g U (nf b ||| nf e) (fun y => fl (d * 8 + y)) (fm d) (fun y => ge (d * 8 + y)) (fun y => gv (d * 8 + y))) : ∃ u1 v1 r, (∀ post : SX → Prop, post u1 → wpX_returnStep post (nI F, nI L, nI D, nI N, nI S, 0, 0, nI A, nI P, -2, 0, cu, ec, va, sc_bi c, nI (d + 1), rc, nk, nl, n2, k1, k2, k3, nf, sk, en, fk, fn, fl, fm, iu, sl, sw, sm, rs)) ∧ (∀ post : Int32 → SY → Prop, post r v1 → wpY_returnStep post (nI F, nI L, nI D, nI N, nI S, 0, 0, nI A, nI P, nI T, wt, lc, nI (d + 1), 0, yc, rK, rV, Nk, nl, N2, C1, C2, C3, nf, sk, cl, ck, cv, mk, wk, rm, gk, gn, ge, gv, gp, gq, yk, yv, 32768, 32768)) ∧ sc_SR M r u1 v1 := by
  have hN := hB.1.2.2.2.2.1
  have hH : sc_HF g U N sz T d Q nk nl k2 k3 nf C2 C3 fk fn fl fm iu sl sw sm cl ck cv gk gn ge gv gp gq := ⟨hb, hn, hF⟩
  rcases hV with ⟨rfl, rfl, rfl⟩ | ⟨rfl, rfl, s, hs, z1, z2⟩
  · by_cases hz : rV = 0
    · refine ⟨(nI F, nI L, nI D, nI N, nI S, 0, 0, nI A, nI P, -2, 1, nI e, fm d, rV, 0, nI d, rc, nk, nl, n2, k1, k2, k3, nf, sk, sc_wr en 0 (fun y => fl (d * 8 + y)) 8, fk, fn, fl, fm, iu, sl, sw, sm, rs), (nI F, nI L, nI D, nI N, nI S, 0, 0, nI A, nI P, nI T, wt, lc, nI d, 1, nI e, 1, rV, Nk, nl, N2, C1, C2, C3, nf, sk, cl, ck, cv, mk, wk, rm, gk, gn, ge, gv, gp, gq, sc_wr yk 0 (fun y => ge (d * 8 + y)) 8, sc_wr yv 0 (fun y => gv (d * 8 + y)) 8, 32768, 32768), -2, fun post h => ?_, fun post h => ?_, Or.inl ⟨rfl, 3 * sz e + Q + 93 * (F - A), by omega, ?_⟩⟩
      · unfold wpX_returnStep
        refine br_t (nI_lt (a := 0) (b := d + 1) (by omega) (by omega)) (nm_r (nI_pred d) ⟨vp_in_nI (by omega) (by omega), nm_r (e' := nI n) (by rw [nI_clamp (n := d) (by omega)]; exact f1) ⟨vp_in_nI (by omega) (by omega), nm_r (e' := 4) (by rw [nI_clamp (n := d) (by omega)]; exact k0) (br_f (by decide) (br_f (by decide) (br_f (by decide) (br_f (by decide) (br_f (by decide) (br_f (by decide) (br_t rfl ?_)))))))⟩⟩)
        unfold wpX_returnToTest
        refine br_t rfl ⟨vp_in_nI (by omega) (by omega), ?_⟩
        rw [sc_m8, nI_clamp (n := d) (by omega)]
        refine xw_loadF (by omega) (br_t hz ⟨vp_in_nI (by omega) (by omega), ?_⟩)
        rw [nI_clamp (n := n) (by omega), e3]
        exact h
      · unfold wpY_returnStep
        refine br_f (nI_ne0 (by omega) (by omega)) (nm_r (nI_pred d) ⟨vp_in_nI (by omega) (by omega), nm_r (e' := 5) (by rw [nI_clamp (n := d) (by omega)]; exact k0') ⟨vp_in_nI (by omega) (by omega), nm_r (e' := nI n) (by rw [nI_clamp (n := d) (by omega)]; exact f2) (br_f (by decide) (br_f (by decide) (nm_r (nI_pred d) (br_f (by decide) (br_f (by decide) (br_t rfl (br_t rfl (yw_load hd (br_t hz ⟨vp_in_nI (by omega) (by omega), nm_r (e' := nI e) (by rw [nI_clamp (n := n) (by omega)]; exact e5) h⟩)))))))))⟩⟩)
      · exact sc_MRk hB (by omega) rfl (by omega) hH hI (Or.inl ⟨rfl, e, heN, rfl, rfl, rfl, sc_row3 (sc_RW_a hR (fun y hy h => by rw [b_or, h, Bool.or_true]) (fun _ _ _ => rfl))⟩)
    · refine ⟨(nI F, nI L, nI D, nI N, nI S, 0, 0, nI A, nI P, -2, 1, nI b, fm d, rV, 0, nI d, rc, nk, nl, n2, k1, k2, k3, nf, sk, sc_wr en 0 (fun y => fl (d * 8 + y)) 8, fk, fn, fl, fm, iu, sl, sw, sm, rs), (nI F, nI L, nI D, nI N, nI S, 0, 0, nI A, nI P, nI T, wt, lc, nI d, 1, nI b, 1, rV, Nk, nl, N2, C1, C2, C3, nf, sk, cl, ck, cv, mk, wk, rm, gk, gn, ge, gv, gp, gq, sc_wr yk 0 (fun y => ge (d * 8 + y)) 8, sc_wr yv 0 (fun y => gv (d * 8 + y)) 8, 32768, 32768), -2, fun post h => ?_, fun post h => ?_, Or.inl ⟨rfl, 3 * sz b + Q + 93 * (F - A), by omega, ?_⟩⟩
      · unfold wpX_returnStep
        refine br_t (nI_lt (a := 0) (b := d + 1) (by omega) (by omega)) (nm_r (nI_pred d) ⟨vp_in_nI (by omega) (by omega), nm_r (e' := nI n) (by rw [nI_clamp (n := d) (by omega)]; exact f1) ⟨vp_in_nI (by omega) (by omega), nm_r (e' := 4) (by rw [nI_clamp (n := d) (by omega)]; exact k0) (br_f (by decide) (br_f (by decide) (br_f (by decide) (br_f (by decide) (br_f (by decide) (br_f (by decide) (br_t rfl ?_)))))))⟩⟩)
        unfold wpX_returnToTest
        refine br_t rfl ⟨vp_in_nI (by omega) (by omega), ?_⟩
        rw [sc_m8, nI_clamp (n := d) (by omega)]
        refine xw_loadF (by omega) (br_f hz ⟨vp_in_nI (by omega) (by omega), ?_⟩)
        rw [nI_clamp (n := n) (by omega), e2]
        exact h
      · unfold wpY_returnStep
        refine br_f (nI_ne0 (by omega) (by omega)) (nm_r (nI_pred d) ⟨vp_in_nI (by omega) (by omega), nm_r (e' := 5) (by rw [nI_clamp (n := d) (by omega)]; exact k0') ⟨vp_in_nI (by omega) (by omega), nm_r (e' := nI n) (by rw [nI_clamp (n := d) (by omega)]; exact f2) (br_f (by decide) (br_f (by decide) (nm_r (nI_pred d) (br_f (by decide) (br_f (by decide) (br_t rfl (br_t rfl (yw_load hd (br_f hz ⟨vp_in_nI (by omega) (by omega), nm_r (e' := nI b) (by rw [nI_clamp (n := n) (by omega)]; exact e4) h⟩)))))))))⟩⟩)
      · exact sc_MRk hB (by omega) rfl (by omega) hH hI (Or.inl ⟨rfl, b, hbN, rfl, rfl, rfl, sc_row3 (sc_RW_a hR (fun y hy h => by rw [b_or, h, Bool.true_or]) (fun _ _ _ => rfl))⟩)
  · refine ⟨(nI F, nI L, nI D, nI N, nI S, 0, 0, nI A, nI P, 2, 0, cu, ec, va, 1, nI d, rc, nk, nl, n2, k1, k2, k3, nf, sk, en, fk, fn, fl, fm, iu, sl, sw, sm, rs), (nI F, nI L, nI D, nI N, nI S, 0, 0, nI A, nI P, nI T, wt, lc, nI d, 0, yc, 2, rV, Nk, nl, N2, C1, C2, C3, nf, sk, cl, ck, cv, mk, wk, rm, gk, gn, ge, gv, gp, gq, yk, yv, 32768, 32768), 2, fun post h => ?_, fun post h => ?_, Or.inr (Or.inl ⟨by decide, by decide, sc_ERk hB⟩)⟩
    · unfold wpX_returnStep
      refine br_t (nI_lt (a := 0) (b := d + 1) (by omega) (by omega)) (nm_r (nI_pred d) ⟨vp_in_nI (by omega) (by omega), nm_r (e' := nI n) (by rw [nI_clamp (n := d) (by omega)]; exact f1) ⟨vp_in_nI (by omega) (by omega), nm_r (e' := 4) (by rw [nI_clamp (n := d) (by omega)]; exact k0) (br_f (by decide) (br_f (by decide) (br_f (by decide) (br_f (by decide) (br_f (by decide) (br_f (by decide) (br_t rfl ?_)))))))⟩⟩)
      unfold wpX_returnToTest
      exact br_f (by decide) h
    · unfold wpY_returnStep
      refine br_f (nI_ne0 (by omega) (by omega)) (nm_r (nI_pred d) ⟨vp_in_nI (by omega) (by omega), nm_r (e' := 5) (by rw [nI_clamp (n := d) (by omega)]; exact k0') ⟨vp_in_nI (by omega) (by omega), nm_r (e' := nI n) (by rw [nI_clamp (n := d) (by omega)]; exact f2) (br_f (by decide) (br_f (by decide) (nm_r (nI_pred d) (br_f (by decide) (br_f (by decide) (br_t rfl (br_f (by decide) h)))))))⟩⟩)
theorem sr_bind {x b : Nat} (hB : sc_BA F L D N S A P sz nk nl n2 k1 k2 k3 nf sk Nk N2 C1 C2 C3) (hd : d < 32) (hM : M = (w + Q) + 93 * (F - A)) (hT : 3 * T + M ≤ 9600) (hb : sc_HB g U iu T) (hn : ∀ s, U s → sc_HN g U N nk nf sl sw sm cl ck cv s) (hF : sc_FS (sc_FO g U N sz nl k2 k3 nf C2 C3 fk fn fl fm gk gn ge gv gp gq) d Q) (hI : sc_IU 32 iu) (hV : sc_VR g U va c rK rV) (hnN : n < N) (f1 : fn d = nI n) (f2 : gn d = nI n) (k0 : fk d = 5) (k0' : gk d = 6) (hx : x < 8) (hbN : b < N) (ex : nl n = nI x) (e2 : k2 n = nI b) (e4 : C2 n = nI b) (hw : w = 3 * sz b + 1) (hR : sc_RW g U (nf b &&& (((1 : Int32) <<< (nI x &&& 31)) ^^^ (-1))) (fun y => fl (d * 8 + y)) (fm d) (fun y => ge (d * 8 + y)) (fun y => gv (d * 8 + y))) : ∃ u1 v1 r, (∀ post : SX → Prop, post u1 → wpX_returnStep post (nI F, nI L, nI D, nI N, nI S, 0, 0, nI A, nI P, -2, 0, cu, ec, va, sc_bi c, nI (d + 1), rc, nk, nl, n2, k1, k2, k3, nf, sk, en, fk, fn, fl, fm, iu, sl, sw, sm, rs)) ∧ (∀ post : Int32 → SY → Prop, post r v1 → wpY_returnStep post (nI F, nI L, nI D, nI N, nI S, 0, 0, nI A, nI P, nI T, wt, lc, nI (d + 1), 0, yc, rK, rV, Nk, nl, N2, C1, C2, C3, nf, sk, cl, ck, cv, mk, wk, rm, gk, gn, ge, gv, gp, gq, yk, yv, 32768, 32768)) ∧ sc_SR M r u1 v1 := by
  have hN := hB.1.2.2.2.2.1
  refine ⟨(nI F, nI L, nI D, nI N, nI S, 0, 0, nI A, nI P, -2, 1, nI b, sc_bm (fm d) x c, va, sc_bi c, nI d, rc, nk, nl, n2, k1, k2, k3, nf, sk, upd (sc_wr en 0 (fun y => fl (d * 8 + y)) 8) x va, fk, fn, fl, fm, iu, sl, sw, sm, rs), (nI F, nI L, nI D, nI N, nI S, 0, 0, nI A, nI P, nI T, wt, lc, nI d, 1, nI b, rK, rV, Nk, nl, N2, C1, C2, C3, nf, sk, cl, ck, cv, mk, wk, rm, gk, gn, ge, gv, gp, gq, upd (sc_wr yk 0 (fun y => ge (d * 8 + y)) 8) x rK, upd (sc_wr yv 0 (fun y => gv (d * 8 + y)) 8) x rV, 32768, 32768), -2, fun post h => ?_, fun post h => ?_, Or.inl ⟨rfl, 3 * sz b + Q + 93 * (F - A), by omega, ?_⟩⟩
  · unfold wpX_returnStep
    refine br_t (nI_lt (a := 0) (b := d + 1) (by omega) (by omega)) (nm_r (nI_pred d) ⟨vp_in_nI (by omega) (by omega), nm_r (e' := nI n) (by rw [nI_clamp (n := d) (by omega)]; exact f1) ⟨vp_in_nI (by omega) (by omega), nm_r (e' := 5) (by rw [nI_clamp (n := d) (by omega)]; exact k0) (br_f (by decide) (br_t (by decide) ⟨vp_in_nI (by omega) (by omega), ?_⟩))⟩⟩)
    rw [sc_m8, nI_clamp (n := d) (by omega)]
    refine xw_loadF (by omega) ⟨vp_in_nI (by omega) (by omega), ?_⟩
    rw [nI_clamp (n := n) (by omega), ex]
    refine xw_bind hx va c ⟨vp_in_nI (by omega) (by omega), ?_⟩
    rw [e2]
    exact h
  · unfold wpY_returnStep
    refine br_f (nI_ne0 (by omega) (by omega)) (nm_r (nI_pred d) ⟨vp_in_nI (by omega) (by omega), nm_r (e' := 6) (by rw [nI_clamp (n := d) (by omega)]; exact k0') ⟨vp_in_nI (by omega) (by omega), nm_r (e' := nI n) (by rw [nI_clamp (n := d) (by omega)]; exact f2) (br_f (by decide) (br_f (by decide) (nm_r (nI_pred d) (br_f (by decide) (br_f (by decide) (br_f (by decide) (yw_load hd ?_)))))))⟩⟩)
    dsimp only
    rw [nI_clamp (n := n) (by omega), ex, nI_clamp (n := x) (by omega)]
    exact ⟨vp_in_nI (by omega) (by omega), vp_in_nI hx (by omega), nm_e ⟨vp_in_nI (by omega) (by omega), vp_in_nI hx (by omega), nm_e ⟨vp_in_nI (by omega) (by omega), nm_r (e' := nI b) e4 h⟩⟩⟩
  · refine sc_MRk hB (by omega) rfl (by omega) ⟨hb, hn, hF⟩ hI (Or.inl ⟨rfl, b, hbN, rfl, rfl, rfl, sc_RW_b (sc_row3 hR) hV ?_ (fun y hy e => sc_bm_o hx hy e) (sc_bm_s hx)⟩)
    intro y hy hbb e
    rw [sc_bc hx (by omega), hbb]
    simp [e]
theorem sc_op (op a b : Int32) : ∃ r : Int32, (∀ post : Int32 → Prop, post r → wpX_operate post op a b) ∧ (∀ post : Int32 → Prop, post r → wpY_applyOp post (fu, ll, dl, nc, ss, hK, hV, ca, pk, ct, wt, lc, dp, ev, yc, rK, rV, Nk, nl, N2, C1, C2, C3, nf, sk, cl, ck, cv, mk, wk, rm, gk, gn, ge, gv, gp, gq, yk, yv, 32768, 32768) op a b) := by
  by_cases h0 : op = 0
  · subst h0
    exact ⟨a + b, fun _ h => br_f (by decide) (br_f (by decide) (br_t rfl h)), fun _ h => br_t rfl h⟩
  by_cases h1 : op = 1
  · subst h1
    exact ⟨a - b, fun _ h => br_f (by decide) (br_f (by decide) (br_f (by decide) (br_t rfl h))), fun _ h => br_f (by decide) (br_t rfl h)⟩
  by_cases h2 : op = 2
  · subst h2
    exact ⟨a * b, fun _ h => br_f (by decide) (br_f (by decide) (br_f (by decide) (br_f (by decide) (br_t rfl h)))), fun _ h => br_f (by decide) (br_f (by decide) (br_t rfl h))⟩
  by_cases h3 : op = 3
  · subst h3
    by_cases hl : b ≤ a
    · exact ⟨0, fun _ h => br_f (by decide) (br_f (by decide) (br_f (by decide) (br_f (by decide) (br_f (by decide) (br_t rfl (br_t hl h)))))), fun _ h => br_f (by decide) (br_f (by decide) (br_f (by decide) (br_t rfl (br_t hl h))))⟩
    · exact ⟨1, fun _ h => br_f (by decide) (br_f (by decide) (br_f (by decide) (br_f (by decide) (br_f (by decide) (br_t rfl (br_f hl h)))))), fun _ h => br_f (by decide) (br_f (by decide) (br_f (by decide) (br_t rfl (br_f hl h))))⟩
  have hX : ∀ (post : Int32 → Prop), ((a = b → post 1) ∧ (¬ a = b → post 0)) → wpX_operate post op a b := by
    intro post h
    by_cases hn : op < 0
    · exact br_t hn h
    · obtain ⟨j, hj, rfl⟩ := nI_of hn
      have : 3 < j := by
        apply Classical.byContradiction
        intro z
        have z : j = 0 ∨ j = 1 ∨ j = 2 ∨ j = 3 := by omega
        rcases z with rfl | rfl | rfl | rfl
        · exact h0 rfl
        · exact h1 rfl
        · exact h2 rfl
        · exact h3 rfl
      exact br_f hn (br_t (nI_lt (a := 3) (b := j) this hj) h)
  by_cases hab : a = b
  · exact ⟨1, fun _ h => hX _ (br_t hab h), fun _ h => br_f h0 (br_f h1 (br_f h2 (br_f h3 (br_t hab h))))⟩
  · exact ⟨0, fun _ h => hX _ (br_f hab h), fun _ h => br_f h0 (br_f h1 (br_f h2 (br_f h3 (br_f hab h))))⟩
theorem sr_right {c0 : Bool} (hB : sc_BA F L D N S A P sz nk nl n2 k1 k2 k3 nf sk Nk N2 C1 C2 C3) (hd : d < 32) (hM : M = (w + Q) + 93 * (F - A)) (hT : 3 * T + M ≤ 9600) (hb : sc_HB g U iu T) (hn : ∀ s, U s → sc_HN g U N nk nf sl sw sm cl ck cv s) (hF : sc_FS (sc_FO g U N sz nl k2 k3 nf C2 C3 fk fn fl fm gk gn ge gv gp gq) d Q) (hI : sc_IU 32 iu) (hV : sc_VR g U va c rK rV) (hnN : n < N) (f1 : fn d = nI n) (f2 : gn d = nI n) (k0 : fk d = 3) (k0' : gk d = 4) (hw : w = 1) (ec0 : fm d = sc_bi c0) (hL : sc_VR g U (fl (d * 8)) c0 (gp d) (gq d)) : ∃ u1 v1 r, (∀ post : SX → Prop, post u1 → wpX_returnStep post (nI F, nI L, nI D, nI N, nI S, 0, 0, nI A, nI P, -2, 0, cu, ec, va, sc_bi c, nI (d + 1), rc, nk, nl, n2, k1, k2, k3, nf, sk, en, fk, fn, fl, fm, iu, sl, sw, sm, rs)) ∧ (∀ post : Int32 → SY → Prop, post r v1 → wpY_returnStep post (nI F, nI L, nI D, nI N, nI S, 0, 0, nI A, nI P, nI T, wt, lc, nI (d + 1), 0, yc, rK, rV, Nk, nl, N2, C1, C2, C3, nf, sk, cl, ck, cv, mk, wk, rm, gk, gn, ge, gv, gp, gq, yk, yv, 32768, 32768)) ∧ sc_SR M r u1 v1 := by
  have hN := hB.1.2.2.2.2.1
  have e0 : bt (sc_bi c0) 0 = c0 := sc_bi0 c0
  rcases hL with ⟨rfl, z1, z2⟩ | ⟨rfl, z1, s0, hs0, z2, z3⟩
  · rcases hV with ⟨rfl, rfl, rfl⟩ | ⟨rfl, rfl, s, hs, y1, y2⟩
    · obtain ⟨r, hX, hY⟩ := sc_op (fu := nI F) (ll := nI L) (dl := nI D) (nc := nI N) (ss := nI S) (hK := 0) (hV := 0) (ca := nI A) (pk := nI P) (ct := nI T) (wt := wt) (lc := lc) (dp := nI d) (ev := 0) (yc := yc) (rK := 1) (rV := rV) (Nk := Nk) (nl := nl) (N2 := N2) (C1 := C1) (C2 := C2) (C3 := C3) (nf := nf) (sk := sk) (cl := cl) (ck := ck) (cv := cv) (mk := mk) (wk := wk) (rm := rm) (gk := gk) (gn := gn) (ge := ge) (gv := gv) (gp := gp) (gq := gq) (yk := yk) (yv := yv) (nl n) (fl (d * 8)) rV
      refine ⟨(nI F, nI L, nI D, nI N, nI S, 0, 0, nI A, nI P, -2, 0, cu, ec, r, 0, nI d, rc, nk, nl, n2, k1, k2, k3, nf, sk, en, fk, fn, fl, fm, iu, sl, sw, sm, rs), (nI F, nI L, nI D, nI N, nI S, 0, 0, nI A, nI P, nI T, wt, lc, nI d, 0, yc, 1, r, Nk, nl, N2, C1, C2, C3, nf, sk, cl, ck, cv, mk, wk, rm, gk, gn, ge, gv, gp, gq, yk, yv, 32768, 32768), -2, fun post h => ?_, fun post h => ?_, Or.inl ⟨rfl, 0 + Q + 93 * (F - A), by omega, ?_⟩⟩
      · unfold wpX_returnStep
        refine br_t (nI_lt (a := 0) (b := d + 1) (by omega) (by omega)) (nm_r (nI_pred d) ⟨vp_in_nI (by omega) (by omega), nm_r (e' := nI n) (by rw [nI_clamp (n := d) (by omega)]; exact f1) ⟨vp_in_nI (by omega) (by omega), nm_r (e' := 3) (by rw [nI_clamp (n := d) (by omega)]; exact k0) (br_f (by decide) (br_f (by decide) (br_f (by decide) (br_f (by decide) (br_f (by decide) (br_t rfl ⟨vp_in_nI (by omega) (by omega), ?_⟩))))))⟩⟩)
        rw [nI_clamp (n := n) (by omega)]
        unfold wpX_returnToRight
        refine ⟨vp_in_nI (by omega) (by omega), br_t (by rw [nI_clamp (n := d) (by omega)]; exact ec0) (br_t rfl ⟨pk_in (d * 8) 256 (by omega) (sc_m8 d), ?_⟩)⟩
        rw [show fl (nI d * 8).toNatClampNeg = fl (d * 8) from by rw [sc_m8, nI_clamp (by omega)]]
        exact hX _ h
      · unfold wpY_returnStep
        refine br_f (nI_ne0 (by omega) (by omega)) (nm_r (nI_pred d) ⟨vp_in_nI (by omega) (by omega), nm_r (e' := 4) (by rw [nI_clamp (n := d) (by omega)]; exact k0') ⟨vp_in_nI (by omega) (by omega), nm_r (e' := nI n) (by rw [nI_clamp (n := d) (by omega)]; exact f2) (br_f (by decide) (br_f (by decide) (nm_r (nI_pred d) (br_f (by decide) (br_t rfl (⟨vp_in_nI (by omega) (by omega), br_t (by rw [nI_clamp (n := d) (by omega)]; exact z1) (br_t rfl ⟨vp_in_nI (by omega) (by omega), vp_in_nI (by omega) (by omega), ?_⟩)⟩))))))⟩⟩)
        rw [nI_clamp (n := n) (by omega), nI_clamp (n := d) (by omega), z2]
        exact hY _ h
      · exact sc_MRk hB (by omega) rfl (by omega) ⟨hb, hn, hF⟩ hI (Or.inr ⟨rfl, rfl, false, rfl, Or.inl ⟨rfl, rfl, rfl⟩⟩)
    · refine ⟨(nI F, nI L, nI D, nI N, nI S, 0, 0, nI A, nI P, 2, 0, cu, ec, va, 1, nI d, rc, nk, nl, n2, k1, k2, k3, nf, sk, en, fk, fn, fl, fm, iu, sl, sw, sm, rs), (nI F, nI L, nI D, nI N, nI S, 0, 0, nI A, nI P, nI T, wt, lc, nI d, 0, yc, 2, rV, Nk, nl, N2, C1, C2, C3, nf, sk, cl, ck, cv, mk, wk, rm, gk, gn, ge, gv, gp, gq, yk, yv, 32768, 32768), 2, fun post h => ?_, fun post h => ?_, Or.inr (Or.inl ⟨by decide, by decide, sc_ERk hB⟩)⟩
      · unfold wpX_returnStep
        refine br_t (nI_lt (a := 0) (b := d + 1) (by omega) (by omega)) (nm_r (nI_pred d) ⟨vp_in_nI (by omega) (by omega), nm_r (e' := nI n) (by rw [nI_clamp (n := d) (by omega)]; exact f1) ⟨vp_in_nI (by omega) (by omega), nm_r (e' := 3) (by rw [nI_clamp (n := d) (by omega)]; exact k0) (br_f (by decide) (br_f (by decide) (br_f (by decide) (br_f (by decide) (br_f (by decide) (br_t rfl ⟨vp_in_nI (by omega) (by omega), ?_⟩))))))⟩⟩)
        unfold wpX_returnToRight
        exact ⟨vp_in_nI (by omega) (by omega), br_t (by rw [nI_clamp (n := d) (by omega)]; exact ec0) (br_f (by decide) h)⟩
      · unfold wpY_returnStep
        refine br_f (nI_ne0 (by omega) (by omega)) (nm_r (nI_pred d) ⟨vp_in_nI (by omega) (by omega), nm_r (e' := 4) (by rw [nI_clamp (n := d) (by omega)]; exact k0') ⟨vp_in_nI (by omega) (by omega), nm_r (e' := nI n) (by rw [nI_clamp (n := d) (by omega)]; exact f2) (br_f (by decide) (br_f (by decide) (nm_r (nI_pred d) (br_f (by decide) (br_t rfl (⟨vp_in_nI (by omega) (by omega), br_t (by rw [nI_clamp (n := d) (by omega)]; exact z1) (br_f (by decide) h)⟩))))))⟩⟩)
  · refine ⟨(nI F, nI L, nI D, nI N, nI S, 0, 0, nI A, nI P, 2, 0, cu, ec, va, sc_bi c, nI d, rc, nk, nl, n2, k1, k2, k3, nf, sk, en, fk, fn, fl, fm, iu, sl, sw, sm, rs), (nI F, nI L, nI D, nI N, nI S, 0, 0, nI A, nI P, nI T, wt, lc, nI d, 0, yc, rK, rV, Nk, nl, N2, C1, C2, C3, nf, sk, cl, ck, cv, mk, wk, rm, gk, gn, ge, gv, gp, gq, yk, yv, 32768, 32768), 2, fun post h => ?_, fun post h => ?_, Or.inr (Or.inl ⟨by decide, by decide, sc_ERk hB⟩)⟩
    · unfold wpX_returnStep
      refine br_t (nI_lt (a := 0) (b := d + 1) (by omega) (by omega)) (nm_r (nI_pred d) ⟨vp_in_nI (by omega) (by omega), nm_r (e' := nI n) (by rw [nI_clamp (n := d) (by omega)]; exact f1) ⟨vp_in_nI (by omega) (by omega), nm_r (e' := 3) (by rw [nI_clamp (n := d) (by omega)]; exact k0) (br_f (by decide) (br_f (by decide) (br_f (by decide) (br_f (by decide) (br_f (by decide) (br_t rfl ⟨vp_in_nI (by omega) (by omega), ?_⟩))))))⟩⟩)
      unfold wpX_returnToRight
      exact ⟨vp_in_nI (by omega) (by omega), br_f (by rw [nI_clamp (n := d) (by omega), ec0]; decide) h⟩
    · unfold wpY_returnStep
      refine br_f (nI_ne0 (by omega) (by omega)) (nm_r (nI_pred d) ⟨vp_in_nI (by omega) (by omega), nm_r (e' := 4) (by rw [nI_clamp (n := d) (by omega)]; exact k0') ⟨vp_in_nI (by omega) (by omega), nm_r (e' := nI n) (by rw [nI_clamp (n := d) (by omega)]; exact f2) (br_f (by decide) (br_f (by decide) (nm_r (nI_pred d) (br_f (by decide) (br_t rfl (⟨vp_in_nI (by omega) (by omega), br_f (by rw [nI_clamp (n := d) (by omega), z1]; decide) h⟩))))))⟩⟩)
/-- the call step, both sides; the machine's state ahead is what the caller pops to -/
theorem sj_call {s : Nat} {ye a1 a2 : Int32} (hB : sc_BA F L D N S A P sz nk nl n2 k1 k2 k3 nf sk Nk N2 C1 C2 C3) (hd : d ≤ 32) (hT : 3 * T + (Q + 93 * (F - A)) ≤ 9600) (hb : sc_HB g U iu T) (hn : ∀ s, U s → sc_HN g U N nk nf sl sw sm cl ck cv s) (hF : sc_FS (sc_FO g U N sz nl k2 k3 nf C2 C3 fk fn fl fm gk gn ge gv gp gq) d Q) (hI : sc_IU 32 iu) (hV : sc_VR g U va c a1 a2) (hs : U s) : ∃ u1 v1 r, (∀ post : SX → Prop, post u1 → wpX_callStep post (nI F, nI L, nI D, nI N, nI S, 0, 0, nI A, nI P, -2, 0, cu, ec, va, sc_bi c, nI d, rc, nk, nl, n2, k1, k2, k3, nf, sk, en, fk, fn, fl, fm, iu, sl, sw, sm, rs) (nI s)) ∧ (∀ post : Int32 → SY → Prop, post r v1 → wpY_callStep post (nI F, nI L, nI D, nI N, nI S, 0, 0, nI A, nI P, nI T, wt, lc, nI d, ye, yc, rK, rV, Nk, nl, N2, C1, C2, C3, nf, sk, cl, ck, cv, mk, wk, rm, gk, gn, ge, gv, gp, gq, yk, yv, 32768, 32768) (nI (g s)) a1 a2) ∧ sc_SR (1 + Q + 93 * (F - A)) r u1 v1 := by
  have hN := hB.1.2.2.2.2.1
  have hF1 := hB.1.2.1
  have hAF := hB.1.2.2.2.2.2.2.1
  obtain ⟨h34, _, hgT⟩ := hb.1 s hs
  by_cases hA : A < F
  · obtain ⟨l, l1, l2, l3, l4, l5, l6, l7⟩ := hn s hs
    obtain ⟨⟨z1, z32⟩, hnd⟩ := hB.2.1 l l1
    have hlam : ∃ x b, x < 8 ∧ b < l ∧ nl l = nI x ∧ k1 l = nI b ∧ C1 l = nI b ∧ sz l = 1 + sz b ∧ ∀ y, y < 8 → bt (nf b) y = true → y ≠ x → bt (nf l) y = true := by
      rw [l2] at hnd
      rcases hnd with h | h | h | h | h | h | h | h
      · exact absurd h.1 (by decide)
      · exact absurd h.1 (by decide)
      · exact h.2.2
      · rcases h.1 with h | h <;> exact absurd h.1 (by decide)
      · exact absurd h.1 (by decide)
      · exact absurd h.1 (by decide)
      · exact absurd h.1 (by decide)
      · exact absurd h.1 (by decide)
    obtain ⟨x, b, hx, hbl, ex, e1, e2, hz, hf⟩ := hlam
    refine ⟨(nI F, nI L, nI D, nI N, nI S, 0, 0, nI (A + 1), nI P, -2, 1, k1 l, sc_bm (sm s) x c, va, sc_bi c, nI d, rc, nk, nl, n2, k1, k2, k3, nf, sk, upd (sc_wr en 0 (fun y => sw (s * 8 + y)) 8) x va, fk, fn, fl, fm, iu, sl, sw, sm, rs), (nI F, nI L, nI D, nI N, nI S, 0, 0, nI (A + 1), nI P, nI T, wt, lc, nI d, 1, C1 l, rK, rV, Nk, nl, N2, C1, C2, C3, nf, sk, cl, ck, cv, mk, wk, rm, gk, gn, ge, gv, gp, gq, upd (sc_wr yk 0 (fun y => ck (g s * 8 + y)) 8) x a1, upd (sc_wr yv 0 (fun y => cv (g s * 8 + y)) 8) x a2, 32768, 32768), -2, fun post h => xw_call h34 (by omega) hx l3 ex hA (by omega) h, fun post h => yw_call (by omega) (by omega) hx l4 ex hA (by omega) h, Or.inl ⟨rfl, 3 * sz b + Q + 93 * (F - (A + 1)), by omega, ?_⟩⟩
    rw [e1, e2]
    obtain ⟨⟨b1, b2, b3, b4, b5, b6, b7, b8⟩, hB2⟩ := hB
    exact sc_MRk (A := A + 1) ⟨⟨b1, b2, b3, b4, b5, b6, by omega, b8⟩, hB2⟩ hd rfl (by omega) ⟨hb, hn, hF⟩ hI (Or.inl ⟨rfl, b, by omega, rfl, rfl, rfl, sc_RW_b (sc_RW_c l5 (fun _ hy => sc_wr_z hy) (fun _ hy => sc_wr_z hy) (fun _ hy => sc_wr_z hy)) hV hf (fun y hy e => sc_bm_o hx hy e) (sc_bm_s hx)⟩)
  · have hAF' : F = A := by omega
    subst hAF'
    refine ⟨(nI F, nI L, nI D, nI N, nI S, 0, 0, nI F, nI P, 4, 0, cu, ec, va, sc_bi c, nI d, rc, nk, nl, n2, k1, k2, k3, nf, sk, en, fk, fn, fl, fm, iu, sl, sw, sm, rs), (nI F, nI L, nI D, nI N, nI S, 0, 0, nI F, nI P, nI T, wt, lc, nI d, ye, yc, rK, rV, Nk, nl, N2, C1, C2, C3, nf, sk, cl, ck, cv, mk, wk, rm, gk, gn, ge, gv, gp, gq, yk, yv, 32768, 32768), 4, fun post h => xw_nofuel (by omega) h, fun post h => ?_, Or.inr (Or.inl ⟨by decide, by decide, sc_ERk hB⟩)⟩
    unfold wpY_callStep
    exact br_t rfl h
theorem sr_call {c0 : Bool} (hB : sc_BA F L D N S A P sz nk nl n2 k1 k2 k3 nf sk Nk N2 C1 C2 C3) (hd : d < 32) (hM : M = (w + Q) + 93 * (F - A)) (hT : 3 * T + M ≤ 9600) (hb : sc_HB g U iu T) (hn : ∀ s, U s → sc_HN g U N nk nf sl sw sm cl ck cv s) (hF : sc_FS (sc_FO g U N sz nl k2 k3 nf C2 C3 fk fn fl fm gk gn ge gv gp gq) d Q) (hI : sc_IU 32 iu) (hV : sc_VR g U va c rK rV) (hnN : n < N) (f1 : fn d = nI n) (f2 : gn d = nI n) (k0 : fk d = 1) (k0' : gk d = 2) (hw : w = 1) (ec0 : fm d = sc_bi c0) (hL : sc_VR g U (fl (d * 8)) c0 (gp d) (gq d)) : ∃ u1 v1 r, (∀ post : SX → Prop, post u1 → wpX_returnStep post (nI F, nI L, nI D, nI N, nI S, 0, 0, nI A, nI P, -2, 0, cu, ec, va, sc_bi c, nI (d + 1), rc, nk, nl, n2, k1, k2, k3, nf, sk, en, fk, fn, fl, fm, iu, sl, sw, sm, rs)) ∧ (∀ post : Int32 → SY → Prop, post r v1 → wpY_returnStep post (nI F, nI L, nI D, nI N, nI S, 0, 0, nI A, nI P, nI T, wt, lc, nI (d + 1), 0, yc, rK, rV, Nk, nl, N2, C1, C2, C3, nf, sk, cl, ck, cv, mk, wk, rm, gk, gn, ge, gv, gp, gq, yk, yv, 32768, 32768)) ∧ sc_SR M r u1 v1 := by
  have hN := hB.1.2.2.2.2.1
  rcases hL with ⟨rfl, z1, z2⟩ | ⟨rfl, z1, s0, hs0, z2, z3⟩
  · refine ⟨(nI F, nI L, nI D, nI N, nI S, 0, 0, nI A, nI P, 3, 0, cu, ec, va, sc_bi c, nI d, rc, nk, nl, n2, k1, k2, k3, nf, sk, en, fk, fn, fl, fm, iu, sl, sw, sm, rs), (nI F, nI L, nI D, nI N, nI S, 0, 0, nI A, nI P, nI T, wt, lc, nI d, 0, yc, rK, rV, Nk, nl, N2, C1, C2, C3, nf, sk, cl, ck, cv, mk, wk, rm, gk, gn, ge, gv, gp, gq, yk, yv, 32768, 32768), 3, fun post h => ?_, fun post h => ?_, Or.inr (Or.inl ⟨by decide, by decide, sc_ERk hB⟩)⟩
    · unfold wpX_returnStep
      refine br_t (nI_lt (a := 0) (b := d + 1) (by omega) (by omega)) (nm_r (nI_pred d) ⟨vp_in_nI (by omega) (by omega), nm_r (e' := nI n) (by rw [nI_clamp (n := d) (by omega)]; exact f1) ⟨vp_in_nI (by omega) (by omega), nm_r (e' := 1) (by rw [nI_clamp (n := d) (by omega)]; exact k0) (br_f (by decide) (br_f (by decide) (br_f (by decide) (br_t rfl ?_))))⟩⟩)
      unfold wpX_returnToCall
      exact ⟨vp_in_nI (by omega) (by omega), br_t (by rw [nI_clamp (n := d) (by omega)]; exact ec0) h⟩
    · unfold wpY_returnStep
      refine br_f (nI_ne0 (by omega) (by omega)) (nm_r (nI_pred d) ⟨vp_in_nI (by omega) (by omega), nm_r (e' := 2) (by rw [nI_clamp (n := d) (by omega)]; exact k0') ⟨vp_in_nI (by omega) (by omega), nm_r (e' := nI n) (by rw [nI_clamp (n := d) (by omega)]; exact f2) (br_f (by decide) (br_f (by decide) (nm_r (nI_pred d) (br_t rfl (⟨vp_in_nI (by omega) (by omega), br_f (by rw [nI_clamp (n := d) (by omega), z1]; decide) h⟩)))))⟩⟩)
  · obtain ⟨u1, v1, r, KX, KY, hS⟩ := sj_call (ye := 0) (rK := rK) (rV := rV) (rc := rc) (cu := cu) (ec := ec) (rs := rs) (en := en) (wt := wt) (lc := lc) (yc := yc) (mk := mk) (wk := wk) (rm := rm) (yk := yk) (yv := yv) hB (by omega) (by omega) hb hn hF hI hV hs0
    refine ⟨u1, v1, r, fun post h => ?_, fun post h => ?_, ?_⟩
    · obtain ⟨_, _, _, _, _, _, _, _, _, _, _, _, _, _, _, _, _, _, _, _, _, _, _, _, _, _, _, _, _, _, _, _, _, _, _⟩ := u1
      unfold wpX_returnStep
      refine br_t (nI_lt (a := 0) (b := d + 1) (by omega) (by omega)) (nm_r (nI_pred d) ⟨vp_in_nI (by omega) (by omega), nm_r (e' := nI n) (by rw [nI_clamp (n := d) (by omega)]; exact f1) ⟨vp_in_nI (by omega) (by omega), nm_r (e' := 1) (by rw [nI_clamp (n := d) (by omega)]; exact k0) (br_f (by decide) (br_f (by decide) (br_f (by decide) (br_t rfl ?_))))⟩⟩)
      unfold wpX_returnToCall
      refine ⟨vp_in_nI (by omega) (by omega), br_f (by rw [nI_clamp (n := d) (by omega), ec0]; decide) ⟨pk_in (d * 8) 256 (by omega) (sc_m8 d), ?_⟩⟩
      rw [show fl (nI d * 8).toNatClampNeg = nI s0 from by rw [sc_m8, nI_clamp (by omega)]; exact z2]
      exact KX _ h
    · obtain ⟨_, _, _, _, _, _, _, _, _, _, _, _, _, _, _, _, _, _, _, _, _, _, _, _, _, _, _, _, _, _, _, _, _, _, _, _, _, _, _, _, _⟩ := v1
      unfold wpY_returnStep
      refine br_f (nI_ne0 (by omega) (by omega)) (nm_r (nI_pred d) ⟨vp_in_nI (by omega) (by omega), nm_r (e' := 2) (by rw [nI_clamp (n := d) (by omega)]; exact k0') ⟨vp_in_nI (by omega) (by omega), nm_r (e' := nI n) (by rw [nI_clamp (n := d) (by omega)]; exact f2) (br_f (by decide) (br_f (by decide) (nm_r (nI_pred d) (br_t rfl (⟨vp_in_nI (by omega) (by omega), br_t (by rw [nI_clamp (n := d) (by omega)]; exact z1) ⟨vp_in_nI (by omega) (by omega), ?_⟩⟩)))))⟩⟩)
      rw [nI_clamp (n := d) (by omega), z3]
      exact KY _ h
    · rw [hM, hw]
      exact hS
end
