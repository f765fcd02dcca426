/-! ===== the steps of EVAL at a letrec ===== -/
section
variable {fu ll dl nc ss hk hv ca pk st ev cu ec va vc dp rc hK hV ct wt lc yc rK rV : Int32} {nk nl n2 k1 k2 k3 nf sk en fk fn fl fm iu sl sw sm rs Nk N2 C1 C2 C3 cl ck cv mk wk rm gk gn ge gv gp gq yk yv : Nat → Int32}
variable {F L D N S A P T d n q Q M : Nat} {sz g : Nat → Nat} {U : Nat → Prop}
theorem se_let1 {x l b : Nat} (hB : sc_BA F L D N S A P sz nk nl n2 k1 k2 k3 nf sk Nk N2 C1 C2 C3) (hd : d ≤ 32) (hM : M = 3 * sz n + Q + 93 * (F - A)) (hT : 3 * T + M ≤ 9600) (hH : sc_HF g U N sz T d Q nk nl k2 k3 nf C2 C3 fk fn fl fm iu sl sw sm cl ck cv gk gn ge gv gp gq) (hI : sc_IU 32 iu) (hn : n < N) (hR : sc_RW g U (nf n) en ec yk yv) (x1 : nk n = 7) (x2 : Nk n = 8) (hx : x < 8) (ex : nl n = nI x) (hl : l < N) (hb : b < N) (hk : nk l = 2) (e1 : k1 n = nI l) (e2 : k2 n = nI b) (e3 : C1 n = nI l) (e4 : C2 n = -1) (e5 : C3 n = nI b) (hz : sz n = 1 + sz l + sz b) (hzl : 1 ≤ sz l) (hfl : ∀ y, y < 8 → bt (nf l) y = true → y ≠ x → bt (nf n) y = true) (hfb : ∀ y, y < 8 → bt (nf b) y = true → y ≠ x → bt (nf n) y = true) : ∃ u1 v1 r, (∀ post : SX → Prop, post u1 → wpX_evalStep post (nI F, nI L, nI D, nI N, nI S, 0, 0, nI A, nI P, -2, 1, nI n, ec, va, vc, nI d, rc, nk, nl, n2, k1, k2, k3, nf, sk, en, fk, fn, fl, fm, iu, sl, sw, sm, rs)) ∧ (∀ post : Int32 → SY → Prop, post r v1 → wpY_evalStep post (nI F, nI L, nI D, nI N, nI S, 0, 0, nI A, nI P, nI T, wt, lc, nI d, 1, nI n, rK, rV, Nk, nl, N2, C1, C2, C3, nf, sk, cl, ck, cv, mk, wk, rm, gk, gn, ge, gv, gp, gq, yk, yv, 32768, 32768)) ∧ sc_SR M r u1 v1 := by
  have hN := hB.1.2.2.2.2.1
  have hL := hB.1.2.2.1
  have hP := hB.1.2.2.2.2.2.2.2
  obtain ⟨s0, h0, hf, KT⟩ := xw_take (fu := nI F) (ll := nI L) (dl := nI D) (nc := nI N) (ss := nI S) (hk := 0) (hv := 0) (ca := nI A) (pk := nI P) (st := -2) (ev := 1) (cu := nI n) (ec := ec) (va := va) (vc := vc) (dp := nI d) (rc := rc) (nk := nk) (nl := nl) (n2 := n2) (k1 := k1) (k2 := k2) (k3 := k3) (nf := nf) (sk := sk) (en := en) (fk := fk) (fn := fn) (fl := fl) (fm := fm) (iu := iu) (sl := sl) (sw := sw) (sm := sm) (rs := rs) (sc_IU_f hI (by omega))
  have hm := sc_HB_e hH.1 hf
  have hv : sc_VR (fun s => if s = s0 then T else g s) (fun s => U s ∨ s = s0) (nI s0) true 2 (nI T) := Or.inr ⟨rfl, rfl, s0, Or.inr rfl, rfl, by dsimp only; rw [if_pos rfl]⟩
  have hR' : ∀ j, (∀ y, y < 8 → bt (nf j) y = true → y ≠ x → bt (nf n) y = true) → sc_RW (fun s => if s = s0 then T else g s) (fun s => U s ∨ s = s0) (nf j) (upd en x (nI s0)) (sc_bm ec x true) (upd yk x 2) (upd yv x (nI T)) := fun j hj => sc_RW_b (sc_RW_m hR hm) hv hj (fun y hy e => sc_bm_o hx hy e) (sc_bm_s hx)
  have hH' := sc_new1 hH h0 hf hl hk (hR' l hfl)
  obtain ⟨hS, iu', rs', rc', c, qq, mk1, wk1, lc1, wt1, mk2, wk2, lc2, wt2, a1, a2, KX, K1, K2⟩ := sj_E (F := F) (L := L) (D := D) (S := S) (A := A) (P := P) (va := va) (vc := vc) (rc := rc) (n2 := n2) (k1 := k1) (sk := sk) (rs := rs) (ev := 1) (yc := nI n) (rK := rK) (rV := rV) (Nk := Nk) (N2 := N2) (C1 := C1) (mk := mk) (wk := wk) (rm := rm) hL hN hP hd (by omega) hb hH' (hR' b hfb)
  have hA := sc_after hH' hS a1 a2
  have hB' := sc_BA_p hB a1
  by_cases hc : c ≤ L
  · rw [if_pos hc] at KX K2
    refine ⟨(nI F, nI L, nI D, nI N, nI S, 0, 0, nI A, nI (if c ≤ P then P else c), -2, 1, nI b, sc_bm ec x true, va, vc, nI d, rc', nk, nl, n2, k1, k2, k3, nf, sk, upd en x (nI s0), fk, fn, fl, fm, iu', upd sl s0 (nI l), sc_wr sw (s0 * 8) (upd en x (nI s0)) 8, upd sm s0 (sc_bm ec x true &&& nf l), rs'), (nI F, nI L, nI D, nI N, nI S, 0, 0, nI A, nI (if c ≤ P then P else c), nI (T + 1), wt2, lc2, nI d, 1, nI b, rK, rV, Nk, nl, N2, C1, C2, C3, nf, sk, upd cl T (nI l), sc_wr ck (T * 8) (fun y => if bt (nf l) y = true then (upd yk x 2) y else 0) 8, sc_wr cv (T * 8) (fun y => if bt (nf l) y = true then (upd yv x (nI T)) y else 0) 8, mk2, wk2, rm, gk, gn, ge, gv, gp, gq, upd yk x 2, upd yv x (nI T), 32768, 32768), -2, fun post h => ?_, fun post h => ?_, Or.inl ⟨rfl, 3 * sz b + Q + 93 * (F - A), by omega, ?_⟩⟩
    · unfold wpX_evalStep
      refine ⟨vp_in_nI (by omega) (by omega), nm_r (e' := 7) (by rw [nI_clamp (by omega)]; exact x1) (br_f (by decide) (br_f (by decide) (br_f (by decide) (br_f (by decide) (br_f (by decide) (br_f (by decide) (br_f (by decide) (br_f (by decide) (br_f (by decide) (br_t rfl ?_))))))))))⟩
      unfold wpX_evalLetrecOne
      refine KT _ ⟨vp_in_nI (by omega) (by omega), ?_⟩
      rw [nI_clamp (n := n) (by omega), ex]
      refine xw_bind hx (nI s0) true ⟨vp_in_nI (by omega) (by omega), ?_⟩
      rw [e1]
      refine xw_make h0 (by omega) ⟨vp_in_nI (by omega) (by omega), ?_⟩
      rw [e2]
      unfold wpX_evaluate
      exact KX _ h
    · unfold wpY_evalStep
      refine br_f (nI_pos (by omega)) (br_t (nI_lt hn (by omega)) ⟨vp_in_nI (by omega) (by omega), nm_r (e' := 8) (by rw [nI_clamp (by omega)]; exact x2) (br_f (by decide) (br_f (by decide) (br_f (by decide) (br_t rfl ⟨vp_in_nI (by omega) (by omega), ?_⟩))))⟩)
      rw [nI_clamp (n := n) (by omega), e3]
      refine yw_alloc (by omega) ⟨vp_in_nI (by omega) (by omega), br_t (by rw [e4]; decide) ?_⟩
      unfold wY_evalStep_168
      rw [nI_clamp (n := n) (by omega), ex, nI_clamp (n := x) (by omega)]
      refine ⟨vp_in_nI (by omega) (by omega), vp_in_nI hx (by omega), nm_e ⟨vp_in_nI (by omega) (by omega), vp_in_nI hx (by omega), nm_e (br_t (by decide) ?_)⟩⟩
      unfold wY_evalStep_222
      rw [nI_clamp (n := n) (by omega), e3, nI_clamp (n := l) (by omega)]
      refine ⟨vp_in_nI (by omega) (by omega), vp_in_nI (by omega) (by omega), yw_fill (by omega) (br_t (by decide) ?_)⟩
      unfold wY_evalStep_260
      refine yw_begin (by omega) ⟨vp_in_nI (by omega) (by omega), ?_⟩
      rw [nI_clamp (n := n) (by omega), e5, nI_clamp (n := b) (by omega)]
      refine ⟨vp_in_nI (by omega) (by omega), K1 _ (K2 _ ?_)⟩
      exact br_t rfl ⟨vp_in_nI (by omega) (by omega), nm_r (e' := nI b) e5 h⟩
    · obtain ⟨hA1, hA2⟩ := hA (by omega)
      refine sc_MRk hB' hd rfl (by omega) hA1 hA2 (Or.inl ⟨rfl, b, hb, rfl, rfl, rfl, sc_RW_r (hR' b hfb) ?_⟩)
      intro y s hy hmb hcc hs e
      exact sc_rc_r (Or.inl ⟨((sc_HF_U hH').1 s hs).1, y, hy, by rw [b_and, hcc, hmb]; rfl, e⟩)
  · rw [if_neg hc] at KX K2
    refine ⟨(nI F, nI L, nI D, nI N, nI S, 0, 0, nI A, nI (if c ≤ P then P else c), 6, 1, nI b, sc_bm ec x true, va, vc, nI d, rc', nk, nl, n2, k1, k2, k3, nf, sk, upd en x (nI s0), fk, fn, fl, fm, iu', upd sl s0 (nI l), sc_wr sw (s0 * 8) (upd en x (nI s0)) 8, upd sm s0 (sc_bm ec x true &&& nf l), rs'), (nI F, nI L, nI D, nI N, nI S, 0, 0, nI A, nI (if c ≤ P then P else c), nI (T + 1), wt2, lc2, nI d, 1, nI n, rK, rV, Nk, nl, N2, C1, C2, C3, nf, sk, upd cl T (nI l), sc_wr ck (T * 8) (fun y => if bt (nf l) y = true then (upd yk x 2) y else 0) 8, sc_wr cv (T * 8) (fun y => if bt (nf l) y = true then (upd yv x (nI T)) y else 0) 8, mk2, wk2, rm, gk, gn, ge, gv, gp, gq, upd yk x 2, upd yv x (nI T), 32768, 32768), 6, fun post h => ?_, fun post h => ?_, Or.inr (Or.inl ⟨by decide, by decide, sc_ERk hB'⟩)⟩
    · unfold wpX_evalStep
      refine ⟨vp_in_nI (by omega) (by omega), nm_r (e' := 7) (by rw [nI_clamp (by omega)]; exact x1) (br_f (by decide) (br_f (by decide) (br_f (by decide) (br_f (by decide) (br_f (by decide) (br_f (by decide) (br_f (by decide) (br_f (by decide) (br_f (by decide) (br_t rfl ?_))))))))))⟩
      unfold wpX_evalLetrecOne
      refine KT _ ⟨vp_in_nI (by omega) (by omega), ?_⟩
      rw [nI_clamp (n := n) (by omega), ex]
      refine xw_bind hx (nI s0) true ⟨vp_in_nI (by omega) (by omega), ?_⟩
      rw [e1]
      refine xw_make h0 (by omega) ⟨vp_in_nI (by omega) (by omega), ?_⟩
      rw [e2]
      unfold wpX_evaluate
      exact KX _ h
    · unfold wpY_evalStep
      refine br_f (nI_pos (by omega)) (br_t (nI_lt hn (by omega)) ⟨vp_in_nI (by omega) (by omega), nm_r (e' := 8) (by rw [nI_clamp (by omega)]; exact x2) (br_f (by decide) (br_f (by decide) (br_f (by decide) (br_t rfl ⟨vp_in_nI (by omega) (by omega), ?_⟩))))⟩)
      rw [nI_clamp (n := n) (by omega), e3]
      refine yw_alloc (by omega) ⟨vp_in_nI (by omega) (by omega), br_t (by rw [e4]; decide) ?_⟩
      unfold wY_evalStep_168
      rw [nI_clamp (n := n) (by omega), ex, nI_clamp (n := x) (by omega)]
      refine ⟨vp_in_nI (by omega) (by omega), vp_in_nI hx (by omega), nm_e ⟨vp_in_nI (by omega) (by omega), vp_in_nI hx (by omega), nm_e (br_t (by decide) ?_)⟩⟩
      unfold wY_evalStep_222
      rw [nI_clamp (n := n) (by omega), e3, nI_clamp (n := l) (by omega)]
      refine ⟨vp_in_nI (by omega) (by omega), vp_in_nI (by omega) (by omega), yw_fill (by omega) (br_t (by decide) ?_)⟩
      unfold wY_evalStep_260
      refine yw_begin (by omega) ⟨vp_in_nI (by omega) (by omega), ?_⟩
      rw [nI_clamp (n := n) (by omega), e5, nI_clamp (n := b) (by omega)]
      refine ⟨vp_in_nI (by omega) (by omega), K1 _ (K2 _ ?_)⟩
      exact br_f (by decide) h
theorem se_let2 {x z l m b : Nat} (hB : sc_BA F L D N S A P sz nk nl n2 k1 k2 k3 nf sk Nk N2 C1 C2 C3) (hd : d ≤ 32) (hM : M = 3 * sz n + Q + 93 * (F - A)) (hT : 3 * T + M ≤ 9600) (hH : sc_HF g U N sz T d Q nk nl k2 k3 nf C2 C3 fk fn fl fm iu sl sw sm cl ck cv gk gn ge gv gp gq) (hI : sc_IU 32 iu) (hn : n < N) (hR : sc_RW g U (nf n) en ec yk yv) (x1 : nk n = 8) (x2 : Nk n = 8) (hx : x < 8) (hz8 : z < 8) (hxz : x ≠ z) (ex : nl n = nI x) (ez : n2 n = nI z) (ez' : N2 n = nI z) (hl : l < N) (hm : m < N) (hb : b < N) (hk : nk l = 2) (hkm : nk m = 2) (e1 : k1 n = nI l) (e2 : k2 n = nI m) (e6 : k3 n = nI b) (e3 : C1 n = nI l) (e4 : C2 n = nI m) (e5 : C3 n = nI b) (hz : sz n = 1 + sz l + sz m + sz b) (hzl : 1 ≤ sz l) (hzm : 1 ≤ sz m) (hfl : ∀ y, y < 8 → bt (nf l) y = true → y ≠ x → y ≠ z → bt (nf n) y = true) (hfm : ∀ y, y < 8 → bt (nf m) y = true → y ≠ x → y ≠ z → bt (nf n) y = true) (hfb : ∀ y, y < 8 → bt (nf b) y = true → y ≠ x → y ≠ z → bt (nf n) y = true) : ∃ u1 v1 r, (∀ post : SX → Prop, post u1 → wpX_evalStep post (nI F, nI L, nI D, nI N, nI S, 0, 0, nI A, nI P, -2, 1, nI n, ec, va, vc, nI d, rc, nk, nl, n2, k1, k2, k3, nf, sk, en, fk, fn, fl, fm, iu, sl, sw, sm, rs)) ∧ (∀ post : Int32 → SY → Prop, post r v1 → wpY_evalStep post (nI F, nI L, nI D, nI N, nI S, 0, 0, nI A, nI P, nI T, wt, lc, nI d, 1, nI n, rK, rV, Nk, nl, N2, C1, C2, C3, nf, sk, cl, ck, cv, mk, wk, rm, gk, gn, ge, gv, gp, gq, yk, yv, 32768, 32768)) ∧ sc_SR M r u1 v1 := by
  have hN := hB.1.2.2.2.2.1
  have hL := hB.1.2.2.1
  have hP := hB.1.2.2.2.2.2.2.2
  obtain ⟨s1, h1, hf1, KT1⟩ := xw_take (fu := nI F) (ll := nI L) (dl := nI D) (nc := nI N) (ss := nI S) (hk := 0) (hv := 0) (ca := nI A) (pk := nI P) (st := -2) (ev := 1) (cu := nI n) (ec := ec) (va := va) (vc := vc) (dp := nI d) (rc := rc) (nk := nk) (nl := nl) (n2 := n2) (k1 := k1) (k2 := k2) (k3 := k3) (nf := nf) (sk := sk) (en := en) (fk := fk) (fn := fn) (fl := fl) (fm := fm) (iu := iu) (sl := sl) (sw := sw) (sm := sm) (rs := rs) (sc_IU_f hI (by omega))
  obtain ⟨s2, h2, hf2, KT2⟩ := xw_take (fu := nI F) (ll := nI L) (dl := nI D) (nc := nI N) (ss := nI S) (hk := 0) (hv := 0) (ca := nI A) (pk := nI P) (st := -2) (ev := 1) (cu := nI n) (ec := ec) (va := va) (vc := vc) (dp := nI d) (rc := rc) (nk := nk) (nl := nl) (n2 := n2) (k1 := k1) (k2 := k2) (k3 := k3) (nf := nf) (sk := sk) (en := en) (fk := fk) (fn := fn) (fl := fl) (fm := fm) (iu := upd iu s1 1) (sl := sl) (sw := sw) (sm := sm) (rs := rs) (sc_IU_f (sc_IU_t (s0 := s1) hI) (by omega))
  have ne12 : s1 ≠ s2 := by
    intro e
    rw [← e, pk_us] at hf2
    exact absurd hf2 (by decide)
  have B1 := sc_HB_t hH.1 h1 hf1
  have m1 := sc_HB_e hH.1 hf1
  have m2 := sc_HB_e B1 hf2
  have mm : ∀ s, U s → ((U s ∨ s = s1) ∨ s = s2) ∧ (if s = s2 then T + 1 else if s = s1 then T else g s) = g s := fun s hs => ⟨(m2 s (m1 s hs).1).1, (m2 s (m1 s hs).1).2.trans (m1 s hs).2⟩
  have hv1 : sc_VR (fun s => if s = s2 then T + 1 else if s = s1 then T else g s) (fun s => (U s ∨ s = s1) ∨ s = s2) (nI s1) true 2 (nI T) := Or.inr ⟨rfl, rfl, s1, Or.inl (Or.inr rfl), rfl, by dsimp only; rw [if_neg ne12, if_pos rfl]⟩
  have hv2 : sc_VR (fun s => if s = s2 then T + 1 else if s = s1 then T else g s) (fun s => (U s ∨ s = s1) ∨ s = s2) (nI s2) true 2 (nI (T + 1)) := Or.inr ⟨rfl, rfl, s2, Or.inr rfl, rfl, by dsimp only; rw [if_pos rfl]⟩
  have hR' : ∀ j, (∀ y, y < 8 → bt (nf j) y = true → y ≠ x → y ≠ z → bt (nf n) y = true) → sc_RW (fun s => if s = s2 then T + 1 else if s = s1 then T else g s) (fun s => (U s ∨ s = s1) ∨ s = s2) (nf j) (upd (upd en x (nI s1)) z (nI s2)) (sc_bm (sc_bm ec x true) z true) (upd (upd yk x 2) z 2) (upd (upd yv x (nI T)) z (nI (T + 1))) := by
    intro j hj
    have r1 : sc_RW (fun s => if s = s2 then T + 1 else if s = s1 then T else g s) (fun s => (U s ∨ s = s1) ∨ s = s2) (nf n ||| ((1 : Int32) <<< (nI x &&& 31))) (upd en x (nI s1)) (sc_bm ec x true) (upd yk x 2) (upd yv x (nI T)) := by
      refine sc_RW_b (sc_RW_m hR mm) hv1 ?_ (fun y hy e => sc_bm_o hx hy e) (sc_bm_s hx)
      intro y hy hbb e
      rw [sc_bs hx (by omega)] at hbb
      simpa [e] using hbb
    refine sc_RW_b r1 hv2 ?_ (fun y hy e => sc_bm_o hz8 hy e) (sc_bm_s hz8)
    intro y hy hbb e
    rw [sc_bs hx (by omega)]
    by_cases exx : y = x
    · simp [exx]
    · rw [hj y hy hbb exx e]
      rfl
  have hH' := sc_new2 hH h1 hf1 h2 hf2 hl hk hm hkm (hR' l hfl) (hR' m hfm)
  obtain ⟨hS, iu', rs', rc', c, qq, mk1, wk1, lc1, wt1, mk2, wk2, lc2, wt2, a1, a2, KX, K1, K2⟩ := sj_E (F := F) (L := L) (D := D) (S := S) (A := A) (P := P) (va := va) (vc := vc) (rc := rc) (n2 := n2) (k1 := k1) (sk := sk) (rs := rs) (ev := 1) (yc := nI n) (rK := rK) (rV := rV) (Nk := Nk) (N2 := N2) (C1 := C1) (mk := mk) (wk := wk) (rm := rm) hL hN hP hd (by omega) hb hH' (hR' b hfb)
  have hA := sc_after hH' hS a1 a2
  have hB' := sc_BA_p hB a1
  by_cases hc : c ≤ L
  · rw [if_pos hc] at KX K2
    refine ⟨(nI F, nI L, nI D, nI N, nI S, 0, 0, nI A, nI (if c ≤ P then P else c), -2, 1, nI b, sc_bm (sc_bm ec x true) z true, va, vc, nI d, rc', nk, nl, n2, k1, k2, k3, nf, sk, upd (upd en x (nI s1)) z (nI s2), fk, fn, fl, fm, iu', upd (upd sl s1 (nI l)) s2 (nI m), sc_wr (sc_wr sw (s1 * 8) (upd (upd en x (nI s1)) z (nI s2)) 8) (s2 * 8) (upd (upd en x (nI s1)) z (nI s2)) 8, upd (upd sm s1 (sc_bm (sc_bm ec x true) z true &&& nf l)) s2 (sc_bm (sc_bm ec x true) z true &&& nf m), rs'), (nI F, nI L, nI D, nI N, nI S, 0, 0, nI A, nI (if c ≤ P then P else c), nI (T + 1 + 1), wt2, lc2, nI d, 1, nI b, rK, rV, Nk, nl, N2, C1, C2, C3, nf, sk, upd (upd cl T (nI l)) (T + 1) (nI m), sc_wr (sc_wr ck (T * 8) (fun y => if bt (nf l) y = true then (upd (upd yk x 2) z 2) y else 0) 8) ((T + 1) * 8) (fun y => if bt (nf m) y = true then (upd (upd yk x 2) z 2) y else 0) 8, sc_wr (sc_wr cv (T * 8) (fun y => if bt (nf l) y = true then (upd (upd yv x (nI T)) z (nI (T + 1))) y else 0) 8) ((T + 1) * 8) (fun y => if bt (nf m) y = true then (upd (upd yv x (nI T)) z (nI (T + 1))) y else 0) 8, mk2, wk2, rm, gk, gn, ge, gv, gp, gq, upd (upd yk x 2) z 2, upd (upd yv x (nI T)) z (nI (T + 1)), 32768, 32768), -2, fun post h => ?_, fun post h => ?_, Or.inl ⟨rfl, 3 * sz b + Q + 93 * (F - A), by omega, ?_⟩⟩
    · unfold wpX_evalStep
      refine ⟨vp_in_nI (by omega) (by omega), nm_r (e' := 8) (by rw [nI_clamp (by omega)]; exact x1) (br_f (by decide) (br_t (by decide) ?_))⟩
      unfold wpX_evalLetrecTwo
      refine KT1 _ (KT2 _ ⟨vp_in_nI (by omega) (by omega), ?_⟩)
      rw [nI_clamp (n := n) (by omega), ex]
      refine xw_bind hx (nI s1) true ⟨vp_in_nI (by omega) (by omega), ?_⟩
      rw [ez]
      refine xw_bind hz8 (nI s2) true ⟨vp_in_nI (by omega) (by omega), ?_⟩
      rw [e1]
      refine xw_make h1 (by omega) ⟨vp_in_nI (by omega) (by omega), ?_⟩
      rw [e2]
      refine xw_make h2 (by omega) ⟨vp_in_nI (by omega) (by omega), ?_⟩
      rw [e6]
      unfold wpX_evaluate
      exact KX _ h
    · unfold wpY_evalStep
      refine br_f (nI_pos (by omega)) (br_t (nI_lt hn (by omega)) ⟨vp_in_nI (by omega) (by omega), nm_r (e' := 8) (by rw [nI_clamp (by omega)]; exact x2) (br_f (by decide) (br_f (by decide) (br_f (by decide) (br_t rfl ⟨vp_in_nI (by omega) (by omega), ?_⟩))))⟩)
      rw [nI_clamp (n := n) (by omega), e3]
      refine yw_alloc (by omega) ⟨vp_in_nI (by omega) (by omega), br_f (by rw [e4]; exact nI_pos (by omega)) ⟨vp_in_nI (by omega) (by omega), ?_⟩⟩
      rw [e4]
      refine yw_alloc (by omega) ?_
      unfold wY_evalStep_168
      dsimp only
      rw [nI_clamp (n := n) (by omega), ex, ez', nI_clamp (n := x) (by omega), nI_clamp (n := z) (by omega)]
      refine ⟨vp_in_nI (by omega) (by omega), vp_in_nI hx (by omega), nm_e ⟨vp_in_nI (by omega) (by omega), vp_in_nI hx (by omega), nm_e (br_f (nI_pos (by omega)) ⟨vp_in_nI (by omega) (by omega), vp_in_nI hz8 (by omega), nm_e ⟨vp_in_nI (by omega) (by omega), vp_in_nI hz8 (by omega), nm_e ?_⟩⟩)⟩⟩
      unfold wY_evalStep_222
      rw [nI_clamp (n := n) (by omega), e3, nI_clamp (n := l) (by omega)]
      refine ⟨vp_in_nI (by omega) (by omega), vp_in_nI (by omega) (by omega), yw_fill (by omega) (br_f (nI_pos (by omega)) ⟨vp_in_nI (by omega) (by omega), ?_⟩)⟩
      rw [e4, nI_clamp (n := m) (by omega)]
      refine ⟨vp_in_nI (by omega) (by omega), yw_fill (by omega) ?_⟩
      unfold wY_evalStep_260
      refine yw_begin (by omega) ⟨vp_in_nI (by omega) (by omega), ?_⟩
      rw [nI_clamp (n := n) (by omega), e5, nI_clamp (n := b) (by omega)]
      refine ⟨vp_in_nI (by omega) (by omega), K1 _ (K2 _ ?_)⟩
      exact br_t rfl ⟨vp_in_nI (by omega) (by omega), nm_r (e' := nI b) e5 h⟩
    · obtain ⟨hA1, hA2⟩ := hA (by omega)
      refine sc_MRk hB' hd rfl (by omega) hA1 hA2 (Or.inl ⟨rfl, b, hb, rfl, rfl, rfl, sc_RW_r (hR' b hfb) ?_⟩)
      intro y s hy hmb hcc hs e
      exact sc_rc_r (Or.inl ⟨((sc_HF_U hH').1 s hs).1, y, hy, by rw [b_and, hcc, hmb]; rfl, e⟩)
  · rw [if_neg hc] at KX K2
    refine ⟨(nI F, nI L, nI D, nI N, nI S, 0, 0, nI A, nI (if c ≤ P then P else c), 6, 1, nI b, sc_bm (sc_bm ec x true) z true, va, vc, nI d, rc', nk, nl, n2, k1, k2, k3, nf, sk, upd (upd en x (nI s1)) z (nI s2), fk, fn, fl, fm, iu', upd (upd sl s1 (nI l)) s2 (nI m), sc_wr (sc_wr sw (s1 * 8) (upd (upd en x (nI s1)) z (nI s2)) 8) (s2 * 8) (upd (upd en x (nI s1)) z (nI s2)) 8, upd (upd sm s1 (sc_bm (sc_bm ec x true) z true &&& nf l)) s2 (sc_bm (sc_bm ec x true) z true &&& nf m), rs'), (nI F, nI L, nI D, nI N, nI S, 0, 0, nI A, nI (if c ≤ P then P else c), nI (T + 1 + 1), wt2, lc2, nI d, 1, nI n, rK, rV, Nk, nl, N2, C1, C2, C3, nf, sk, upd (upd cl T (nI l)) (T + 1) (nI m), sc_wr (sc_wr ck (T * 8) (fun y => if bt (nf l) y = true then (upd (upd yk x 2) z 2) y else 0) 8) ((T + 1) * 8) (fun y => if bt (nf m) y = true then (upd (upd yk x 2) z 2) y else 0) 8, sc_wr (sc_wr cv (T * 8) (fun y => if bt (nf l) y = true then (upd (upd yv x (nI T)) z (nI (T + 1))) y else 0) 8) ((T + 1) * 8) (fun y => if bt (nf m) y = true then (upd (upd yv x (nI T)) z (nI (T + 1))) y else 0) 8, mk2, wk2, rm, gk, gn, ge, gv, gp, gq, upd (upd yk x 2) z 2, upd (upd yv x (nI T)) z (nI (T + 1)), 32768, 32768), 6, fun post h => ?_, fun post h => ?_, Or.inr (Or.inl ⟨by decide, by decide, sc_ERk hB'⟩)⟩
    · unfold wpX_evalStep
      refine ⟨vp_in_nI (by omega) (by omega), nm_r (e' := 8) (by rw [nI_clamp (by omega)]; exact x1) (br_f (by decide) (br_t (by decide) ?_))⟩
      unfold wpX_evalLetrecTwo
      refine KT1 _ (KT2 _ ⟨vp_in_nI (by omega) (by omega), ?_⟩)
      rw [nI_clamp (n := n) (by omega), ex]
      refine xw_bind hx (nI s1) true ⟨vp_in_nI (by omega) (by omega), ?_⟩
      rw [ez]
      refine xw_bind hz8 (nI s2) true ⟨vp_in_nI (by omega) (by omega), ?_⟩
      rw [e1]
      refine xw_make h1 (by omega) ⟨vp_in_nI (by omega) (by omega), ?_⟩
      rw [e2]
      refine xw_make h2 (by omega) ⟨vp_in_nI (by omega) (by omega), ?_⟩
      rw [e6]
      unfold wpX_evaluate
      exact KX _ h
    · unfold wpY_evalStep
      refine br_f (nI_pos (by omega)) (br_t (nI_lt hn (by omega)) ⟨vp_in_nI (by omega) (by omega), nm_r (e' := 8) (by rw [nI_clamp (by omega)]; exact x2) (br_f (by decide) (br_f (by decide) (br_f (by decide) (br_t rfl ⟨vp_in_nI (by omega) (by omega), ?_⟩))))⟩)
      rw [nI_clamp (n := n) (by omega), e3]
      refine yw_alloc (by omega) ⟨vp_in_nI (by omega) (by omega), br_f (by rw [e4]; exact nI_pos (by omega)) ⟨vp_in_nI (by omega) (by omega), ?_⟩⟩
      rw [e4]
      refine yw_alloc (by omega) ?_
      unfold wY_evalStep_168
      dsimp only
      rw [nI_clamp (n := n) (by omega), ex, ez', nI_clamp (n := x) (by omega), nI_clamp (n := z) (by omega)]
      refine ⟨vp_in_nI (by omega) (by omega), vp_in_nI hx (by omega), nm_e ⟨vp_in_nI (by omega) (by omega), vp_in_nI hx (by omega), nm_e (br_f (nI_pos (by omega)) ⟨vp_in_nI (by omega) (by omega), vp_in_nI hz8 (by omega), nm_e ⟨vp_in_nI (by omega) (by omega), vp_in_nI hz8 (by omega), nm_e ?_⟩⟩)⟩⟩
      unfold wY_evalStep_222
      rw [nI_clamp (n := n) (by omega), e3, nI_clamp (n := l) (by omega)]
      refine ⟨vp_in_nI (by omega) (by omega), vp_in_nI (by omega) (by omega), yw_fill (by omega) (br_f (nI_pos (by omega)) ⟨vp_in_nI (by omega) (by omega), ?_⟩)⟩
      rw [e4, nI_clamp (n := m) (by omega)]
      refine ⟨vp_in_nI (by omega) (by omega), yw_fill (by omega) ?_⟩
      unfold wY_evalStep_260
      refine yw_begin (by omega) ⟨vp_in_nI (by omega) (by omega), ?_⟩
      rw [nI_clamp (n := n) (by omega), e5, nI_clamp (n := b) (by omega)]
      refine ⟨vp_in_nI (by omega) (by omega), K1 _ (K2 _ ?_)⟩
      exact br_f (by decide) h
end
