/-! ===== the steps of EVAL that make closures ===== -/
section
variable {fu ll dl nc ss hk hv ca pk st ev cu ec va vc dp rc hK hV ct wt lc yc rK rV : Int32} {nk nl n2 k1 k2 k3 nf sk en fk fn fl fm iu sl sw sm rs Nk N2 C1 C2 C3 cl ck cv mk wk rm gk gn ge gv gp gq yk yv : Nat → Int32}
variable {F L D N S A P T d n q Q M : Nat} {sz g : Nat → Nat} {U : Nat → Prop}
theorem sc_new1 {l s0 : Nat} (hH : sc_HF g U N sz T d Q nk nl k2 k3 nf C2 C3 fk fn fl fm iu sl sw sm cl ck cv gk gn ge gv gp gq) (h0 : s0 < 34) (hf : iu s0 = 0) (hl : l < N) (hk : nk l = 2) (hR : sc_RW (fun s => if s = s0 then T else g s) (fun s => U s ∨ s = s0) (nf l) en ec yk yv) : sc_HF (fun s => if s = s0 then T else g s) (fun s => U s ∨ s = s0) N sz (T + 1) d Q nk nl k2 k3 nf C2 C3 fk fn fl fm (upd iu s0 1) (upd sl s0 (nI l)) (sc_wr sw (s0 * 8) en 8) (upd sm s0 (ec &&& nf l)) (upd cl T (nI l)) (sc_wr ck (T * 8) (fun y => if bt (nf l) y = true then yk y else 0) 8) (sc_wr cv (T * 8) (fun y => if bt (nf l) y = true then yv y else 0) 8) gk gn ge gv gp gq := by
  have hm := sc_HB_e hH.1 hf
  refine ⟨sc_HB_t hH.1 h0 hf, ?_, sc_FS_m (fun i w hi h => sc_FO_m h hm) hH.2.2⟩
  intro s hs
  by_cases e : s = s0
  · subst e
    have eg : (if s = s then T else g s) = T := if_pos rfl
    refine sc_HN_f hR hl hk pk_us (by rw [eg]; exact pk_us) (fun y hy => sc_wr_i hy) pk_us (fun y hy => by rw [eg]; exact sc_wr_i hy) (fun y hy hb => ?_)
    rw [eg, sc_wr_i hy]
    exact if_pos hb
  · have hU : U s := hs.resolve_right e
    have hg := (hH.1.1 s hU).2.2
    have eg : (if s = s0 then T else g s) = g s := if_neg e
    have ne : g s ≠ T := by omega
    refine sc_HN_c (sc_HN_m (hH.2.1 s hU) hm hU) (pk_un e) (fun y hy => sc_wr_r e hy) (pk_un e) ?_ ?_ ?_
    · rw [eg]; exact pk_un ne
    · intro y hy; rw [eg]; exact sc_wr_r ne hy
    · intro y hy; rw [eg]; exact sc_wr_r ne hy
theorem sc_new2 {l m s1 s2 : Nat} (hH : sc_HF g U N sz T d Q nk nl k2 k3 nf C2 C3 fk fn fl fm iu sl sw sm cl ck cv gk gn ge gv gp gq) (h1 : s1 < 34) (hf1 : iu s1 = 0) (h2 : s2 < 34) (hf2 : upd iu s1 1 s2 = 0) (hl : l < N) (hk : nk l = 2) (hm : m < N) (hkm : nk m = 2) (hR1 : sc_RW (fun s => if s = s2 then T + 1 else if s = s1 then T else g s) (fun s => (U s ∨ s = s1) ∨ s = s2) (nf l) en ec yk yv) (hR2 : sc_RW (fun s => if s = s2 then T + 1 else if s = s1 then T else g s) (fun s => (U s ∨ s = s1) ∨ s = s2) (nf m) en ec yk yv) : sc_HF (fun s => if s = s2 then T + 1 else if s = s1 then T else g s) (fun s => (U s ∨ s = s1) ∨ s = s2) N sz (T + 1 + 1) d Q nk nl k2 k3 nf C2 C3 fk fn fl fm (upd (upd iu s1 1) s2 1) (upd (upd sl s1 (nI l)) s2 (nI m)) (sc_wr (sc_wr sw (s1 * 8) en 8) (s2 * 8) en 8) (upd (upd sm s1 (ec &&& nf l)) s2 (ec &&& nf m)) (upd (upd cl T (nI l)) (T + 1) (nI m)) (sc_wr (sc_wr ck (T * 8) (fun y => if bt (nf l) y = true then yk y else 0) 8) ((T + 1) * 8) (fun y => if bt (nf m) y = true then yk y else 0) 8) (sc_wr (sc_wr cv (T * 8) (fun y => if bt (nf l) y = true then yv y else 0) 8) ((T + 1) * 8) (fun y => if bt (nf m) y = true then yv y else 0) 8) gk gn ge gv gp gq := by
  have ne12 : s1 ≠ s2 := by
    intro e
    rw [← e, pk_us] at hf2
    exact absurd hf2 (by decide)
  have B1 := sc_HB_t hH.1 h1 hf1
  have m1 := sc_HB_e hH.1 hf1
  have m2 := sc_HB_e B1 hf2
  have mm : ∀ s, U s → ((U s ∨ s = s1) ∨ s = s2) ∧ (if s = s2 then T + 1 else if s = s1 then T else g s) = g s := fun s hs => ⟨(m2 s (m1 s hs).1).1, (m2 s (m1 s hs).1).2.trans (m1 s hs).2⟩
  refine ⟨sc_HB_t B1 h2 hf2, ?_, sc_FS_m (fun i w hi h => sc_FO_m h mm) hH.2.2⟩
  intro s hs
  by_cases e2 : s = s2
  · subst e2
    have eg : (if s = s then T + 1 else if s = s1 then T else g s) = T + 1 := if_pos rfl
    refine sc_HN_f hR2 hm hkm pk_us (by rw [eg]; exact pk_us) (fun y hy => sc_wr_i hy) pk_us (fun y hy => by rw [eg]; exact sc_wr_i hy) (fun y hy hb => ?_)
    rw [eg, sc_wr_i hy]
    exact if_pos hb
  · by_cases e1 : s = s1
    · subst e1
      have eg : (if s = s2 then T + 1 else if s = s then T else g s) = T := by
        rw [if_neg e2, if_pos rfl]
      refine sc_HN_f hR1 hl hk (by rw [pk_un e2]; exact pk_us) (by rw [eg, pk_un (by omega)]; exact pk_us) (fun y hy => by rw [sc_wr_r e2 hy]; exact sc_wr_i hy) (by rw [pk_un e2]; exact pk_us) (fun y hy => by rw [eg, sc_wr_r (by omega) hy]; exact sc_wr_i hy) (fun y hy hb => ?_)
      rw [eg, sc_wr_r (by omega) hy, sc_wr_i hy]
      exact if_pos hb
    · have hU : U s := (hs.resolve_right e2).resolve_right e1
      have hg := (hH.1.1 s hU).2.2
      have eg : (if s = s2 then T + 1 else if s = s1 then T else g s) = g s := (mm s hU).2
      have na : g s ≠ T := by omega
      have nb : g s ≠ T + 1 := by omega
      refine sc_HN_c (sc_HN_m (hH.2.1 s hU) mm hU) (by rw [pk_un e2, pk_un e1]) (fun y hy => by rw [sc_wr_r e2 hy, sc_wr_r e1 hy]) (by rw [pk_un e2, pk_un e1]) ?_ ?_ ?_
      · rw [eg, pk_un nb, pk_un na]
      · intro y hy; rw [eg, sc_wr_r nb hy, sc_wr_r na hy]
      · intro y hy; rw [eg, sc_wr_r nb hy, sc_wr_r na hy]
theorem sc_BA_p {c : Nat} {iu' rs' : Nat → Int32} {rc' : Int32} {qq : Nat → Nat} (hB : sc_BA F L D N S A P sz nk nl n2 k1 k2 k3 nf sk Nk N2 C1 C2 C3) (hX : sc_XS iu' rs' rc' c qq) : sc_BA F L D N S A (if c ≤ P then P else c) sz nk nl n2 k1 k2 k3 nf sk Nk N2 C1 C2 C3 := by
  have hc := sc_XS_b hX
  obtain ⟨⟨b1, b2, b3, b4, b5, b6, b7, b8⟩, h⟩ := hB
  refine ⟨⟨b1, b2, b3, b4, b5, b6, b7, ?_⟩, h⟩
  split <;> omega
theorem se_lam (hB : sc_BA F L D N S A P sz nk nl n2 k1 k2 k3 nf sk Nk N2 C1 C2 C3) (hd : d ≤ 32) (hM : M = 3 * sz n + Q + 93 * (F - A)) (hT : 3 * T + M ≤ 9600) (hH : sc_HF g U N sz T d Q nk nl k2 k3 nf C2 C3 fk fn fl fm iu sl sw sm cl ck cv gk gn ge gv gp gq) (hI : sc_IU 32 iu) (hn : n < N) (hR : sc_RW g U (nf n) en ec yk yv) (x1 : nk n = 2) (x2 : Nk n = 3) : ∃ u1 v1 r, (∀ post : SX → Prop, post u1 → wpX_evalStep post (nI F, nI L, nI D, nI N, nI S, 0, 0, nI A, nI P, -2, 1, nI n, ec, va, vc, nI d, rc, nk, nl, n2, k1, k2, k3, nf, sk, en, fk, fn, fl, fm, iu, sl, sw, sm, rs)) ∧ (∀ post : Int32 → SY → Prop, post r v1 → wpY_evalStep post (nI F, nI L, nI D, nI N, nI S, 0, 0, nI A, nI P, nI T, wt, lc, nI d, 1, nI n, rK, rV, Nk, nl, N2, C1, C2, C3, nf, sk, cl, ck, cv, mk, wk, rm, gk, gn, ge, gv, gp, gq, yk, yv, 32768, 32768)) ∧ sc_SR M r u1 v1 := by
  have hN := hB.1.2.2.2.2.1
  have hL := hB.1.2.2.1
  have hP := hB.1.2.2.2.2.2.2.2
  have hs := (hB.2.1 n hn).1.1
  obtain ⟨s0, h0, hf, KT⟩ := xw_take (fu := nI F) (ll := nI L) (dl := nI D) (nc := nI N) (ss := nI S) (hk := 0) (hv := 0) (ca := nI A) (pk := nI P) (st := -2) (ev := 1) (cu := nI n) (ec := ec) (va := va) (vc := vc) (dp := nI d) (rc := rc) (nk := nk) (nl := nl) (n2 := n2) (k1 := k1) (k2 := k2) (k3 := k3) (nf := nf) (sk := sk) (en := en) (fk := fk) (fn := fn) (fl := fl) (fm := fm) (iu := iu) (sl := sl) (sw := sw) (sm := sm) (rs := rs) (sc_IU_f hI (by omega))
  have hm := sc_HB_e hH.1 hf
  have hH' := sc_new1 hH h0 hf hn x1 (sc_RW_m hR hm)
  obtain ⟨iu', rs', rc', c, qq, mk1, wk1, lc1, wt1, mk2, wk2, lc2, wt2, a1, a2, KX, K1, K2⟩ := sj_R (F := F) (L := L) (D := D) (S := S) (A := A) (P := P) (cu := nI n) (ec := ec) (vc := 1) (rc := rc) (n2 := n2) (k1 := k1) (sk := sk) (en := en) (rs := rs) (ev := 1) (yc := nI n) (rK := rK) (rV := rV) (Nk := Nk) (N2 := N2) (C1 := C1) (mk := mk) (wk := wk) (rm := rm) (yk := yk) (yv := yv) (s0 := s0) hL hN hP hd (by omega) hH' (Or.inr rfl)
  have hA := sc_after (SR := fun s => s = s0) hH' (fun s e => Or.inr e) a1 a2
  have hB' := sc_BA_p hB a1
  rw [if_pos rfl] at K1
  by_cases hc : c ≤ L
  · rw [if_pos hc] at KX K2
    refine ⟨(nI F, nI L, nI D, nI N, nI S, 0, 0, nI A, nI (if c ≤ P then P else c), -2, 0, nI n, ec, nI s0, 1, nI d, rc', nk, nl, n2, k1, k2, k3, nf, sk, en, fk, fn, fl, fm, iu', upd sl s0 (nI n), sc_wr sw (s0 * 8) en 8, upd sm s0 (ec &&& nf n), rs'), (nI F, nI L, nI D, nI N, nI S, 0, 0, nI A, nI (if c ≤ P then P else c), nI (T + 1), wt2, lc2, nI d, 0, nI n, 2, nI T, Nk, nl, N2, C1, C2, C3, nf, sk, upd cl T (nI n), sc_wr ck (T * 8) (fun y => if bt (nf n) y = true then yk y else 0) 8, sc_wr cv (T * 8) (fun y => if bt (nf n) y = true then yv y else 0) 8, mk2, wk2, rm, gk, gn, ge, gv, gp, gq, yk, yv, 32768, 32768), -2, fun post h => ?_, fun post h => ?_, Or.inl ⟨rfl, 0 + Q + 93 * (F - A), by omega, ?_⟩⟩
    · unfold wpX_evalStep
      refine ⟨vp_in_nI (by omega) (by omega), nm_r (e' := 2) (by rw [nI_clamp (by omega)]; exact x1) (br_f (by decide) (br_f (by decide) (br_f (by decide) (br_f (by decide) (br_t rfl ?_)))))⟩
      unfold wpX_evalLam
      refine KT _ (xw_make h0 (by omega) ?_)
      unfold wpX_giveClosure
      exact KX _ h
    · unfold wpY_evalStep
      refine br_f (nI_pos (by omega)) (br_t (nI_lt hn (by omega)) ⟨vp_in_nI (by omega) (by omega), nm_r (e' := 3) (by rw [nI_clamp (by omega)]; exact x2) (br_f (by decide) (br_f (by decide) (br_t rfl ?_)))⟩)
      refine yw_alloc (by omega) ⟨vp_in_nI (by omega) (by omega), ?_⟩
      rw [nI_clamp (n := n) (by omega)]
      refine yw_fill (by omega) (yw_begin (by omega) (K1 _ (K2 _ ?_)))
      exact br_t rfl h
    · obtain ⟨hA1, hA2⟩ := hA (by omega)
      refine sc_MRk hB' hd rfl (by omega) hA1 hA2 (Or.inr ⟨rfl, rfl, true, rfl, Or.inr ⟨rfl, rfl, s0, sc_rc_r (Or.inl rfl), rfl, ?_⟩⟩)
      dsimp only
      rw [if_pos rfl]
  · rw [if_neg hc] at KX K2
    refine ⟨(nI F, nI L, nI D, nI N, nI S, 0, 0, nI A, nI (if c ≤ P then P else c), 6, 0, nI n, ec, nI s0, 1, nI d, rc', nk, nl, n2, k1, k2, k3, nf, sk, en, fk, fn, fl, fm, iu', upd sl s0 (nI n), sc_wr sw (s0 * 8) en 8, upd sm s0 (ec &&& nf n), rs'), (nI F, nI L, nI D, nI N, nI S, 0, 0, nI A, nI (if c ≤ P then P else c), nI (T + 1), wt2, lc2, nI d, 1, nI n, rK, rV, Nk, nl, N2, C1, C2, C3, nf, sk, upd cl T (nI n), sc_wr ck (T * 8) (fun y => if bt (nf n) y = true then yk y else 0) 8, sc_wr cv (T * 8) (fun y => if bt (nf n) y = true then yv y else 0) 8, mk2, wk2, rm, gk, gn, ge, gv, gp, gq, yk, yv, 32768, 32768), 6, fun post h => ?_, fun post h => ?_, Or.inr (Or.inl ⟨by decide, by decide, sc_ERk hB'⟩)⟩
    · unfold wpX_evalStep
      refine ⟨vp_in_nI (by omega) (by omega), nm_r (e' := 2) (by rw [nI_clamp (by omega)]; exact x1) (br_f (by decide) (br_f (by decide) (br_f (by decide) (br_f (by decide) (br_t rfl ?_)))))⟩
      unfold wpX_evalLam
      refine KT _ (xw_make h0 (by omega) ?_)
      unfold wpX_giveClosure
      exact KX _ h
    · unfold wpY_evalStep
      refine br_f (nI_pos (by omega)) (br_t (nI_lt hn (by omega)) ⟨vp_in_nI (by omega) (by omega), nm_r (e' := 3) (by rw [nI_clamp (by omega)]; exact x2) (br_f (by decide) (br_f (by decide) (br_t rfl ?_)))⟩)
      refine yw_alloc (by omega) ⟨vp_in_nI (by omega) (by omega), ?_⟩
      rw [nI_clamp (n := n) (by omega)]
      refine yw_fill (by omega) (yw_begin (by omega) (K1 _ (K2 _ ?_)))
      exact br_f (by decide) h
end
