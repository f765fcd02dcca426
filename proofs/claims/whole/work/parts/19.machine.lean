/-! ===== the machine's loop, both sides in step ===== -/
/-- what is held between two calls -/
def sc_HD (N : Nat) (hk hv hK hV ct : Int32) (nk nf iu sl sw sm cl ck cv : Nat → Int32) : Prop := (hk = 0 ∧ hv = 0 ∧ hK = 0 ∧ hV = 0) ∨ (hk = 1 ∧ hK = 1 ∧ hV = hv) ∨ (hk = 2 ∧ hK = 2 ∧ ∃ (s : Nat) (g : Nat → Nat) (U : Nat → Prop) (T : Nat), ct = nI T ∧ T ≤ 4096 ∧ sc_HB g U iu T ∧ (∀ s, U s → sc_HN g U N nk nf sl sw sm cl ck cv s) ∧ sc_IU 32 iu ∧ U s ∧ hv = nI s ∧ hV = nI (g s))
/-- the relation between two calls -/
def sc_RL (u : SX) (v : SY) : Prop := ∃ (fu ll dl nc ss hk hv ca pk st ev cu ec va vc dp rc hK hV ct wt lc yc rK rV : Int32) (nk nl n2 k1 k2 k3 nf sk en fk fn fl fm iu sl sw sm rs Nk N2 C1 C2 C3 cl ck cv mk wk rm gk gn ge gv gp gq yk yv : Nat → Int32) (sp ye : Int32), u = (fu, ll, dl, nc, ss, hk, hv, ca, pk, st, ev, cu, ec, va, vc, dp, rc, nk, nl, n2, k1, k2, k3, nf, sk, en, fk, fn, fl, fm, iu, sl, sw, sm, rs) ∧ v = (fu, ll, dl, nc, ss, hK, hV, ca, pk, ct, wt, lc, sp, ye, yc, rK, rV, Nk, nl, N2, C1, C2, C3, nf, sk, cl, ck, cv, mk, wk, rm, gk, gn, ge, gv, gp, gq, yk, yv, 32768, 32768) ∧ ∃ F L D N S A P sz, (fu = nI F ∧ ll = nI L ∧ dl = nI D ∧ nc = nI N ∧ ss = nI S ∧ ca = nI A ∧ pk = nI P) ∧ sc_BA F L D N S A P sz nk nl n2 k1 k2 k3 nf sk Nk N2 C1 C2 C3 ∧ sc_HD N hk hv hK hV ct nk nf iu sl sw sm cl ck cv
def sc_lX (post : Int32 → SX → Prop) (n : Nat) (i : Int32) (u : SX) : Prop := match u with
  | (fu, ll, dl, nc, ss, hk, hv, ca, pk, st, ev, cu, ec, va, vc, dp, rc, nk, nl, n2, k1, k2, k3, nf, sk, en, fk, fn, fl, fm, iu, sl, sw, sm, rs) => wX_finishMachine_2 post n i fu ll dl nc ss hk hv ca pk st ev cu ec va vc dp rc nk nl n2 k1 k2 k3 nf sk en fk fn fl fm iu sl sw sm rs
def sc_lY (post : Int32 → SY → Prop) (n : Nat) (i : Int32) (v : SY) : Prop := match v with
  | (e1, e2, e3, e4, e5, e6, e7, e8, e9, e10, e11, e12, e13, e14, e15, e16, e17, r1, r2, r3, r4, r5, r6, r7, r8, r9, r10, r11, r12, r13, r14, r15, r16, r17, r18, r19, r20, r21, r22, nK, nV) => wY_machine_2 post n i e1 e2 e3 e4 e5 e6 e7 e8 e9 e10 e11 e12 e13 e14 e15 e16 e17 r1 r2 r3 r4 r5 r6 r7 r8 r9 r10 r11 r12 r13 r14 r15 r16 r17 r18 r19 r20 r21 r22 nK nV
section
variable {fu ll dl nc ss hk hv ca pk st ev cu ec va vc dp rc hK hV ct wt lc yc rK rV : Int32} {nk nl n2 k1 k2 k3 nf sk en fk fn fl fm iu sl sw sm rs Nk N2 C1 C2 C3 cl ck cv mk wk rm gk gn ge gv gp gq yk yv : Nat → Int32}
variable {F L D N S A P T d n q Q M : Nat} {sz g : Nat → Nat} {U : Nat → Prop}
theorem sm_eval (hB : sc_BA F L D N S A P sz nk nl n2 k1 k2 k3 nf sk Nk N2 C1 C2 C3) (hd : d ≤ 32) (hM : M = 3 * sz n + Q + 93 * (F - A)) (hT : 3 * T + M ≤ 9600) (hH : sc_HF g U N sz T d Q nk nl k2 k3 nf C2 C3 fk fn fl fm iu sl sw sm cl ck cv gk gn ge gv gp gq) (hI : sc_IU 32 iu) (hn : n < N) (hR : sc_RW g U (nf n) en ec yk yv) : ∃ u1 v1 r, (∀ post : SX → Prop, post u1 → wpX_evalStep post (nI F, nI L, nI D, nI N, nI S, 0, 0, nI A, nI P, -2, 1, nI n, ec, va, vc, nI d, rc, nk, nl, n2, k1, k2, k3, nf, sk, en, fk, fn, fl, fm, iu, sl, sw, sm, rs)) ∧ (∀ post : Int32 → SY → Prop, post r v1 → wpY_evalStep post (nI F, nI L, nI D, nI N, nI S, 0, 0, nI A, nI P, nI T, wt, lc, nI d, 1, nI n, rK, rV, Nk, nl, N2, C1, C2, C3, nf, sk, cl, ck, cv, mk, wk, rm, gk, gn, ge, gv, gp, gq, yk, yv, 32768, 32768)) ∧ sc_SR M r u1 v1 := by
  obtain ⟨_, hnd⟩ := hB.2.1 n hn
  rcases hnd with ⟨x1, x2⟩ | ⟨x1, x2, x, hx, ex, hf⟩ | ⟨x1, x2, _⟩ | ⟨x12, a, b, ha, hb, e1, e2, e3, e4, hz, hfa, hfb⟩ | ⟨x1, x2, a, b, e, ha, hb, he, e1, e2, e5, e3, e4, e6, hz, hfa, hfb, hfe⟩ | ⟨x1, x2, x, a, b, hx, ha, hb, ex, e1, e2, e3, e4, hz, hfa, hfb⟩ | ⟨x1, x2, x, l, b, hx, hl, hb, ex, hk, e1, e2, e3, e4, e5, hz, hfl, hfb⟩ | ⟨x1, x2, x, z, l, m, b, hx, hz8, hxz, hl, hm, hb, ex, ez, ez', hk, hkm, e1, e2, e6, e3, e4, e5, hz, hfl, hfm, hfb⟩
  · exact se_num hB hd hM hT hH hI hn x1 x2
  · exact se_var hB hd hM hT hH hI hn hR x1 x2 hx ex hf
  · exact se_lam hB hd hM hT hH hI hn hR x1 x2
  · rcases x12 with ⟨x1, x2⟩ | ⟨x1, x2⟩
    · exact se_app hB hd hM hT hH hI hn hR x1 x2 (by omega) (by omega) e1 e2 e3 e4 hz hfa hfb
    · exact se_prim hB hd hM hT hH hI hn hR x1 x2 (by omega) (by omega) e1 e2 e3 e4 hz hfa hfb
  · refine se_if hB hd hM hT hH hI hn hR x1 x2 (by omega) (by omega) (by omega) e1 e2 e5 e3 e4 e6 hz hfa ?_
    intro y hy h
    rw [b_or] at h
    rcases Bool.or_eq_true_iff.mp h with h | h
    · exact hfb y hy h
    · exact hfe y hy h
  · refine se_let hB hd hM hT hH hI hn hR x1 x2 hx ex (by omega) (by omega) e1 e2 e3 e4 hz hfa ?_
    intro y hy h
    rw [sc_bc hx (by omega)] at h
    obtain ⟨h1, h2⟩ := Bool.and_eq_true_iff.mp h
    exact hfb y hy h1 (by intro e; rw [e] at h2; simp at h2)
  · exact se_let1 hB hd hM hT hH hI hn hR x1 x2 hx ex (by omega) (by omega) hk e1 e2 e3 e4 e5 hz (hB.2.1 l (by omega)).1.1 hfl hfb
  · exact se_let2 hB hd hM hT hH hI hn hR x1 x2 hx hz8 hxz ex ez ez' (by omega) (by omega) (by omega) hk hkm e1 e2 e6 e3 e4 e5 hz (hB.2.1 l (by omega)).1.1 (hB.2.1 m (by omega)).1.1 hfl hfm hfb
theorem sm_ret {c : Bool} (hB : sc_BA F L D N S A P sz nk nl n2 k1 k2 k3 nf sk Nk N2 C1 C2 C3) (hd : d ≤ 32) (hM : M = 0 + Q + 93 * (F - A)) (hT : 3 * T + M ≤ 9600) (hH : sc_HF g U N sz T d Q nk nl k2 k3 nf C2 C3 fk fn fl fm iu sl sw sm cl ck cv gk gn ge gv gp gq) (hI : sc_IU 32 iu) (hV : sc_VR g U va c rK rV) : ∃ u1 v1 r, (∀ post : SX → Prop, post u1 → wpX_returnStep post (nI F, nI L, nI D, nI N, nI S, 0, 0, nI A, nI P, -2, 0, cu, ec, va, sc_bi c, nI d, rc, nk, nl, n2, k1, k2, k3, nf, sk, en, fk, fn, fl, fm, iu, sl, sw, sm, rs)) ∧ (∀ post : Int32 → SY → Prop, post r v1 → wpY_returnStep post (nI F, nI L, nI D, nI N, nI S, 0, 0, nI A, nI P, nI T, wt, lc, nI d, 0, yc, rK, rV, Nk, nl, N2, C1, C2, C3, nf, sk, cl, ck, cv, mk, wk, rm, gk, gn, ge, gv, gp, gq, yk, yv, 32768, 32768)) ∧ sc_SR M r u1 v1 := by
  cases d with
  | zero =>
    refine ⟨(nI F, nI L, nI D, nI N, nI S, 0, 0, nI A, nI P, 0, 0, cu, ec, va, sc_bi c, nI 0, rc, nk, nl, n2, k1, k2, k3, nf, sk, en, fk, fn, fl, fm, iu, sl, sw, sm, rs), (nI F, nI L, nI D, nI N, nI S, rK, rV, nI A, nI P, nI T, wt, lc, nI 0, 0, yc, rK, rV, Nk, nl, N2, C1, C2, C3, nf, sk, cl, ck, cv, mk, wk, rm, gk, gn, ge, gv, gp, gq, yk, yv, 32768, 32768), 0, fun post h => ?_, fun post h => ?_, Or.inr (Or.inr ⟨rfl, ?_⟩)⟩
    · unfold wpX_returnStep
      exact br_f (nI_nlt (a := 0) (b := 0) (by omega) (by omega)) h
    · unfold wpY_returnStep
      exact br_t rfl h
    · exact ⟨_, _, _, _, _, 0, 0, _, _, 0, _, _, _, _, _, _, _, 0, 0, _, _, _, _, _, _, _, _, _, _, _, _, _, _, _, _, _, _, _, _, _, _, _, _, _, _, _, _, _, _, _, _, _, _, _, _, _, _, _, _, _, _, _, rfl, rfl, F, L, D, N, S, A, P, sz, g, U, T, c, ⟨rfl, rfl, rfl, rfl, rfl, rfl, rfl, rfl⟩, hB, by omega, hH.1, hH.2.1, hI, rfl, hV⟩
  | succ d =>
    obtain ⟨hb, hn, w, q, ⟨n, hnN, f1, f2, hk⟩, hQ, hF⟩ := hH
    subst hQ
    have hM' : M = (w + q) + 93 * (F - A) := by omega
    rcases hk with ⟨k, b, a1, a2, a3, a4, a5, a6⟩ | ⟨k, a1, c0, a2, a3⟩ | ⟨k1, k2, b, e, a1, a2, a3, a4, a5, a6, a7, a8, a9⟩ | ⟨k1, k2, x, b, a1, a2, a3, a4, a5, a6, a7, a8⟩
    · rcases k with ⟨k1, k2⟩ | ⟨k1, k2⟩
      · exact sr_arg hB (by omega) hM' hT hb hn hF hI hV hnN f1 f2 k1 k2 a1 a2 a3 a4 a5
      · exact sr_left hB (by omega) hM' hT hb hn hF hI hV hnN f1 f2 k1 k2 a1 a2 a3 a4 a5
    · rcases k with ⟨k1, k2⟩ | ⟨k1, k2⟩
      · exact sr_call hB (by omega) hM' hT hb hn hF hI hV hnN f1 f2 k1 k2 a1 a2 a3
      · exact sr_right hB (by omega) hM' hT hb hn hF hI hV hnN f1 f2 k1 k2 a1 a2 a3
    · exact sr_test hB (by omega) hM' hT hb hn hF hI hV hnN f1 f2 k1 k2 a1 a2 a3 a4 a5 a6 a7 a8
    · exact sr_bind hB (by omega) hM' hT hb hn hF hI hV hnN f1 f2 k1 k2 a1 a2 a3 a4 a5 a6 a7
end
