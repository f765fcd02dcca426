/-! ===== the steps of EVAL, both sides: constants, variables, frames pushed ===== -/
theorem sc_FO_c {g : Nat → Nat} {U : Nat → Prop} {n0 : Nat} {sz : Nat → Nat} {lb c2 c3 fv c2' c3' fk fn fvl fc gk gn gek gev gvk gvv fk' fn' fvl' fc' gk' gn' gek' gev' gvk' gvv' : Nat → Int32} {i w : Nat} (h : sc_FO g U n0 sz lb c2 c3 fv c2' c3' fk fn fvl fc gk gn gek gev gvk gvv i w) (e1 : fk' i = fk i) (e2 : fn' i = fn i) (e3 : ∀ y, y < 8 → fvl' (i * 8 + y) = fvl (i * 8 + y)) (e4 : fc' i = fc i) (e5 : gk' i = gk i) (e6 : gn' i = gn i) (e7 : ∀ y, y < 8 → gek' (i * 8 + y) = gek (i * 8 + y)) (e8 : ∀ y, y < 8 → gev' (i * 8 + y) = gev (i * 8 + y)) (e9 : gvk' i = gvk i) (e10 : gvv' i = gvv i) : sc_FO g U n0 sz lb c2 c3 fv c2' c3' fk' fn' fvl' fc' gk' gn' gek' gev' gvk' gvv' i w := by
  obtain ⟨n, h1, h2, h3, h4⟩ := h
  unfold sc_FO
  rw [e1, e2, e4, e5, e6, e9, e10]
  refine ⟨n, h1, h2, h3, ?_⟩
  rcases h4 with ⟨k, b, a1, a2, a3, a4, a5, a6⟩ | ⟨k, a1, c, a2, a3⟩ | ⟨x1, x2, b, e, a1, a2, a3, a4, a5, a6, a7, a8, a9⟩ | ⟨x1, x2, x, b, a1, a2, a3, a4, a5, a6, a7, a8⟩
  · exact Or.inl ⟨k, b, a1, a2, a3, a4, sc_RW_c a5 e3 e7 e8, a6⟩
  · have e30 := e3 0 (by omega)
    rw [Nat.add_zero] at e30
    exact Or.inr (Or.inl ⟨k, a1, c, a2, by rw [e30]; exact a3⟩)
  · exact Or.inr (Or.inr (Or.inl ⟨x1, x2, b, e, a1, a2, a3, a4, a5, a6, a7, sc_RW_c a8 e3 e7 e8, a9⟩))
  · exact Or.inr (Or.inr (Or.inr ⟨x1, x2, x, b, a1, a2, a3, a4, a5, a6, sc_RW_c a7 e3 e7 e8, a8⟩))
/-- a frame's row, just saved -/
theorem sc_row1 {g : Nat → Nat} {U : Nat → Prop} {d : Nat} {mn m ec : Int32} {en yk yv fl ge gv : Nat → Int32} (h : sc_RW g U mn en ec yk yv) (hm : ∀ y, y < 8 → bt m y = true → bt mn y = true) : sc_RW g U m (fun y => sc_wr fl (d * 8) en 8 (d * 8 + y)) (ec &&& m) (fun y => sc_wr ge (d * 8) yk 8 (d * 8 + y)) (fun y => sc_wr gv (d * 8) yv 8 (d * 8 + y)) := by
  intro y hy hb
  dsimp only
  rw [sc_wr_i hy, sc_wr_i hy, sc_wr_i hy, b_and, hb, Bool.and_true]
  exact h y hy (hm y hy hb)
theorem sc_row2 {m ec : Int32} : sc_CM m (ec &&& m) := by
  intro y _ hc
  rw [b_and] at hc
  exact (Bool.and_eq_true_iff.mp hc).2
section
variable {fu ll dl nc ss hk hv ca pk st ev cu ec va vc dp rc hK hV ct wt lc yc rK rV : Int32} {nk nl n2 k1 k2 k3 nf sk en fk fn fl fm iu sl sw sm rs Nk N2 C1 C2 C3 cl ck cv mk wk rm gk gn ge gv gp gq yk yv : Nat → Int32}
variable {F L D N S A P T d n q Q M : Nat} {sz g : Nat → Nat} {U : Nat → Prop}
theorem sc_MRk (hB : sc_BA F L D N S A P sz nk nl n2 k1 k2 k3 nf sk Nk N2 C1 C2 C3) (hd : d ≤ 32) (hM : M = q + Q + 93 * (F - A)) (hT : 3 * T + M ≤ 9600) (hH : sc_HF g U N sz T d Q nk nl k2 k3 nf C2 C3 fk fn fl fm iu sl sw sm cl ck cv gk gn ge gv gp gq) (hI : sc_IU 32 iu) (hS : sc_SE N sz g U q ev cu ec va vc yc rK rV nf en yk yv) : sc_MR M (nI F, nI L, nI D, nI N, nI S, 0, 0, nI A, nI P, -2, ev, cu, ec, va, vc, nI d, rc, nk, nl, n2, k1, k2, k3, nf, sk, en, fk, fn, fl, fm, iu, sl, sw, sm, rs) (nI F, nI L, nI D, nI N, nI S, 0, 0, nI A, nI P, nI T, wt, lc, nI d, ev, yc, rK, rV, Nk, nl, N2, C1, C2, C3, nf, sk, cl, ck, cv, mk, wk, rm, gk, gn, ge, gv, gp, gq, yk, yv, 32768, 32768) := by
  unfold sc_MR
  refine ⟨_, _, _, _, _, 0, 0, _, _, 0, _, _, _, _, _, _, _, 0, 0, _, _, _, _, _, _, _, _, _, _, _, _, _, _, _, _, _, _, _, _, _, _, _, _, _, _, _, _, _, _, _, _, _, _, _, _, _, _, _, _, _, _, _, rfl, rfl, ?_⟩
  unfold sc_mr
  exact ⟨F, L, D, N, S, A, P, sz, g, U, T, d, q, Q, ⟨rfl, rfl, rfl, rfl, rfl, rfl, rfl, rfl, rfl⟩, hB, ⟨hd, hM, hT⟩, hH, hI, hS⟩
theorem sc_ERk {r sp ye : Int32} (hB : sc_BA F L D N S A P sz nk nl n2 k1 k2 k3 nf sk Nk N2 C1 C2 C3) : sc_ER r (nI F, nI L, nI D, nI N, nI S, 0, 0, nI A, nI P, r, ev, cu, ec, va, vc, dp, rc, nk, nl, n2, k1, k2, k3, nf, sk, en, fk, fn, fl, fm, iu, sl, sw, sm, rs) (nI F, nI L, nI D, nI N, nI S, 0, 0, nI A, nI P, ct, wt, lc, sp, ye, yc, rK, rV, Nk, nl, N2, C1, C2, C3, nf, sk, cl, ck, cv, mk, wk, rm, gk, gn, ge, gv, gp, gq, yk, yv, 32768, 32768) := by
  unfold sc_ER
  exact ⟨_, _, _, _, _, 0, 0, _, _, 0, _, _, _, _, _, _, _, 0, 0, _, _, _, _, _, _, _, _, _, _, _, _, _, _, _, _, _, _, _, _, _, _, _, _, _, _, _, _, _, _, _, _, _, _, _, _, _, _, _, _, _, _, _, _, _, rfl, rfl, F, L, D, N, S, A, P, sz, ⟨rfl, rfl, rfl, rfl, rfl, rfl, rfl⟩, hB⟩
theorem se_num (hB : sc_BA F L D N S A P sz nk nl n2 k1 k2 k3 nf sk Nk N2 C1 C2 C3) (hd : d ≤ 32) (hM : M = 3 * sz n + Q + 93 * (F - A)) (hT : 3 * T + M ≤ 9600) (hH : sc_HF g U N sz T d Q nk nl k2 k3 nf C2 C3 fk fn fl fm iu sl sw sm cl ck cv gk gn ge gv gp gq) (hI : sc_IU 32 iu) (hn : n < N) (x1 : nk n = 0) (x2 : Nk n = 1) : ∃ u1 v1 r, (∀ post : SX → Prop, post u1 → wpX_evalStep post (nI F, nI L, nI D, nI N, nI S, 0, 0, nI A, nI P, -2, 1, nI n, ec, va, vc, nI d, rc, nk, nl, n2, k1, k2, k3, nf, sk, en, fk, fn, fl, fm, iu, sl, sw, sm, rs)) ∧ (∀ post : Int32 → SY → Prop, post r v1 → wpY_evalStep post (nI F, nI L, nI D, nI N, nI S, 0, 0, nI A, nI P, nI T, wt, lc, nI d, 1, nI n, rK, rV, Nk, nl, N2, C1, C2, C3, nf, sk, cl, ck, cv, mk, wk, rm, gk, gn, ge, gv, gp, gq, yk, yv, 32768, 32768)) ∧ sc_SR M r u1 v1 := by
  have hN := hB.1.2.2.2.2.1
  have hs := (hB.2.1 n hn).1.1
  refine ⟨(nI F, nI L, nI D, nI N, nI S, 0, 0, nI A, nI P, -2, 0, nI n, ec, nl n, 0, nI d, rc, nk, nl, n2, k1, k2, k3, nf, sk, en, fk, fn, fl, fm, iu, sl, sw, sm, rs), (nI F, nI L, nI D, nI N, nI S, 0, 0, nI A, nI P, nI T, wt, lc, nI d, 0, nI n, 1, nl n, Nk, nl, N2, C1, C2, C3, nf, sk, cl, ck, cv, mk, wk, rm, gk, gn, ge, gv, gp, gq, yk, yv, 32768, 32768), -2, fun post h => ?_, fun post h => ?_, Or.inl ⟨rfl, 0 + Q + 93 * (F - A), by omega, ?_⟩⟩
  · unfold wpX_evalStep
    refine ⟨vp_in_nI (by omega) (by omega), nm_r (e' := 0) (by rw [nI_clamp (by omega)]; exact x1) (br_f (by decide) (br_f (by decide) (br_t rfl ⟨vp_in_nI (by omega) (by omega), ?_⟩)))⟩
    rw [nI_clamp (n := n) (by omega)]
    exact h
  · unfold wpY_evalStep
    refine br_f (nI_pos (by omega)) (br_t (nI_lt hn (by omega)) ⟨vp_in_nI (by omega) (by omega), nm_r (e' := 1) (by rw [nI_clamp (by omega)]; exact x2) (br_t rfl ⟨vp_in_nI (by omega) (by omega), ?_⟩)⟩)
    rw [nI_clamp (n := n) (by omega)]
    exact h
  · exact sc_MRk hB hd rfl (by omega) hH hI (Or.inr ⟨rfl, rfl, false, rfl, Or.inl ⟨rfl, rfl, rfl⟩⟩)
theorem se_var {x : Nat} (hB : sc_BA F L D N S A P sz nk nl n2 k1 k2 k3 nf sk Nk N2 C1 C2 C3) (hd : d ≤ 32) (hM : M = 3 * sz n + Q + 93 * (F - A)) (hT : 3 * T + M ≤ 9600) (hH : sc_HF g U N sz T d Q nk nl k2 k3 nf C2 C3 fk fn fl fm iu sl sw sm cl ck cv gk gn ge gv gp gq) (hI : sc_IU 32 iu) (hn : n < N) (hR : sc_RW g U (nf n) en ec yk yv) (x1 : nk n = 1) (x2 : Nk n = 2) (hx : x < 8) (ex : nl n = nI x) (hf : bt (nf n) x = true) : ∃ u1 v1 r, (∀ post : SX → Prop, post u1 → wpX_evalStep post (nI F, nI L, nI D, nI N, nI S, 0, 0, nI A, nI P, -2, 1, nI n, ec, va, vc, nI d, rc, nk, nl, n2, k1, k2, k3, nf, sk, en, fk, fn, fl, fm, iu, sl, sw, sm, rs)) ∧ (∀ post : Int32 → SY → Prop, post r v1 → wpY_evalStep post (nI F, nI L, nI D, nI N, nI S, 0, 0, nI A, nI P, nI T, wt, lc, nI d, 1, nI n, rK, rV, Nk, nl, N2, C1, C2, C3, nf, sk, cl, ck, cv, mk, wk, rm, gk, gn, ge, gv, gp, gq, yk, yv, 32768, 32768)) ∧ sc_SR M r u1 v1 := by
  have hN := hB.1.2.2.2.2.1
  have hs := (hB.2.1 n hn).1.1
  refine ⟨(nI F, nI L, nI D, nI N, nI S, 0, 0, nI A, nI P, -2, 0, nI n, ec, en x, sc_bi (bt ec x), nI d, rc, nk, nl, n2, k1, k2, k3, nf, sk, en, fk, fn, fl, fm, iu, sl, sw, sm, rs), (nI F, nI L, nI D, nI N, nI S, 0, 0, nI A, nI P, nI T, wt, lc, nI d, 0, nI n, yk x, yv x, Nk, nl, N2, C1, C2, C3, nf, sk, cl, ck, cv, mk, wk, rm, gk, gn, ge, gv, gp, gq, yk, yv, 32768, 32768), -2, fun post h => ?_, fun post h => ?_, Or.inl ⟨rfl, 0 + Q + 93 * (F - A), by omega, ?_⟩⟩
  · unfold wpX_evalStep
    refine ⟨vp_in_nI (by omega) (by omega), nm_r (e' := 1) (by rw [nI_clamp (by omega)]; exact x1) (br_f (by decide) (br_f (by decide) (br_f (by decide) (br_t rfl ⟨vp_in_nI (by omega) (by omega), ?_⟩))))⟩
    rw [nI_clamp (n := n) (by omega), ex]
    unfold wpX_evalVar
    cases hb : bt ec x with
    | false =>
      rw [hb] at h
      refine br_t ((sc_bit ec (by omega)).mpr hb) ⟨vp_in_nI hx (by omega), ?_⟩
      rw [nI_clamp (n := x) (by omega)]
      exact h
    | true =>
      rw [hb] at h
      refine br_f (fun z => by rw [(sc_bit ec (by omega)).mp z] at hb; cases hb) ⟨vp_in_nI hx (by omega), ?_⟩
      rw [nI_clamp (n := x) (by omega)]
      exact h
  · unfold wpY_evalStep
    refine br_f (nI_pos (by omega)) (br_t (nI_lt hn (by omega)) ⟨vp_in_nI (by omega) (by omega), nm_r (e' := 2) (by rw [nI_clamp (by omega)]; exact x2) (br_f (by decide) (br_t rfl ⟨vp_in_nI (by omega) (by omega), nm_r (e' := nI x) (by rw [nI_clamp (by omega)]; exact ex) ⟨vp_in_nI hx (by omega), vp_in_nI hx (by omega), ?_⟩⟩))⟩)
    rw [nI_clamp (n := x) (by omega)]
    exact h
  · exact sc_MRk hB hd rfl (by omega) hH hI (Or.inr ⟨rfl, rfl, bt ec x, rfl, hR x hx hf⟩)
theorem sc_HF_p {w : Nat} {f f' m : Int32} (hH : sc_HF g U N sz T d Q nk nl k2 k3 nf C2 C3 fk fn fl fm iu sl sw sm cl ck cv gk gn ge gv gp gq) (hF : sc_FO g U N sz nl k2 k3 nf C2 C3 (upd fk d f) (upd fn d (nI n)) (sc_wr fl (d * 8) en 8) (upd fm d m) (upd gk d f') (upd gn d (nI n)) (sc_wr ge (d * 8) yk 8) (sc_wr gv (d * 8) yv 8) gp gq d w) : sc_HF g U N sz T (d + 1) (w + Q) nk nl k2 k3 nf C2 C3 (upd fk d f) (upd fn d (nI n)) (sc_wr fl (d * 8) en 8) (upd fm d m) iu sl sw sm cl ck cv (upd gk d f') (upd gn d (nI n)) (sc_wr ge (d * 8) yk 8) (sc_wr gv (d * 8) yv 8) gp gq := by
  obtain ⟨h1, h2, h3⟩ := hH
  refine ⟨h1, h2, w, Q, hF, rfl, sc_FS_m (fun i w' hi h => ?_) h3⟩
  have ne : i ≠ d := by omega
  exact sc_FO_c h (pk_un ne) (pk_un ne) (fun y hy => sc_wr_r ne hy) (pk_un ne) (pk_un ne) (pk_un ne) (fun y hy => sc_wr_r ne hy) (fun y hy => sc_wr_r ne hy) rfl rfl
/-- the four kinds of node that push a frame -/
theorem se_push {a w : Nat} {f f' m : Int32} (hB : sc_BA F L D N S A P sz nk nl n2 k1 k2 k3 nf sk Nk N2 C1 C2 C3) (hd : d ≤ 32) (hM : M = 3 * sz n + Q + 93 * (F - A)) (hT : 3 * T + M ≤ 9600) (hH : sc_HF g U N sz T d Q nk nl k2 k3 nf C2 C3 fk fn fl fm iu sl sw sm cl ck cv gk gn ge gv gp gq) (hI : sc_IU 32 iu) (hn : n < N) (hR : sc_RW g U (nf n) en ec yk yv) (ha : a < N) (e1 : k1 n = nI a) (e2 : C1 n = nI a) (hf : ∀ y, y < 8 → bt (nf a) y = true → bt (nf n) y = true) (hw : 3 * sz a + w < 3 * sz n) (hF : d < 32 → sc_FO g U N sz nl k2 k3 nf C2 C3 (upd fk d f) (upd fn d (nI n)) (sc_wr fl (d * 8) en 8) (upd fm d (ec &&& m)) (upd gk d f') (upd gn d (nI n)) (sc_wr ge (d * 8) yk 8) (sc_wr gv (d * 8) yv 8) gp gq d w) (hX : ∀ (u1 : SX) (post : SX → Prop), (∀ post' : SX → Prop, post' u1 → wpX_evalFirstChild post' (nI F, nI L, nI D, nI N, nI S, 0, 0, nI A, nI P, -2, 1, nI n, ec, va, vc, nI d, rc, nk, nl, n2, k1, k2, k3, nf, sk, en, fk, fn, fl, fm, iu, sl, sw, sm, rs) (nI n) f m) → post u1 → wpX_evalStep post (nI F, nI L, nI D, nI N, nI S, 0, 0, nI A, nI P, -2, 1, nI n, ec, va, vc, nI d, rc, nk, nl, n2, k1, k2, k3, nf, sk, en, fk, fn, fl, fm, iu, sl, sw, sm, rs)) (hY : ∀ post : Int32 → SY → Prop, wY_evalStep_333 post (nI n) f' (nI F) (nI L) (nI D) (nI N) (nI S) 0 0 (nI A) (nI P) (nI T) wt lc (nI d) 1 (nI n) rK rV Nk nl N2 C1 C2 C3 nf sk cl ck cv mk wk rm gk gn ge gv gp gq yk yv 32768 32768 → wpY_evalStep post (nI F, nI L, nI D, nI N, nI S, 0, 0, nI A, nI P, nI T, wt, lc, nI d, 1, nI n, rK, rV, Nk, nl, N2, C1, C2, C3, nf, sk, cl, ck, cv, mk, wk, rm, gk, gn, ge, gv, gp, gq, yk, yv, 32768, 32768)) : ∃ u1 v1 r, (∀ post : SX → Prop, post u1 → wpX_evalStep post (nI F, nI L, nI D, nI N, nI S, 0, 0, nI A, nI P, -2, 1, nI n, ec, va, vc, nI d, rc, nk, nl, n2, k1, k2, k3, nf, sk, en, fk, fn, fl, fm, iu, sl, sw, sm, rs)) ∧ (∀ post : Int32 → SY → Prop, post r v1 → wpY_evalStep post (nI F, nI L, nI D, nI N, nI S, 0, 0, nI A, nI P, nI T, wt, lc, nI d, 1, nI n, rK, rV, Nk, nl, N2, C1, C2, C3, nf, sk, cl, ck, cv, mk, wk, rm, gk, gn, ge, gv, gp, gq, yk, yv, 32768, 32768)) ∧ sc_SR M r u1 v1 := by
  have hN := hB.1.2.2.2.2.1
  have hD := hB.1.2.2.2.1
  by_cases hdD : d < D
  · refine ⟨_, _, -2, fun post h => hX _ post (fun post' h' => xw_first (by omega) hdD hD h') h, fun post h => hY post (yw_push (by omega) hdD hD h), Or.inl ⟨rfl, 3 * sz a + (w + Q) + 93 * (F - A), by omega, ?_⟩⟩
    rw [e1, e2]
    exact sc_MRk hB (by omega) rfl (by omega) (sc_HF_p hH (hF (by omega))) hI (Or.inl ⟨rfl, a, ha, rfl, rfl, rfl, sc_RW_a hR hf (fun _ _ _ => rfl)⟩)
  · refine ⟨_, (nI F, nI L, nI D, nI N, nI S, 0, 0, nI A, nI P, nI T, wt, lc, nI d, 1, nI n, rK, rV, Nk, nl, N2, C1, C2, C3, nf, sk, cl, ck, cv, mk, wk, rm, gk, gn, ge, gv, gp, gq, yk, yv, 32768, 32768), 5, fun post h => hX _ post (fun post' h' => xw_deep (by omega) (by omega) h') h, fun post h => hY post ?_, Or.inr (Or.inl ⟨by decide, by decide, sc_ERk hB⟩)⟩
    exact br_f (nI_nlt (by omega) (by omega)) h
end
