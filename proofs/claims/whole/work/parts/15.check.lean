/-! ===== the live check, both sides ===== -/
theorem sc_RW_s {g : Nat → Nat} {U : Nat → Prop} {m c : Int32} {r k w : Nat → Int32} (h : sc_RW g U m r c k w) (hU : ∀ s, U s → s < 34) {y : Nat} (hy : y < 8) (hm : bt m y = true) (hc : bt c y = true) : ∃ s, s < 34 ∧ r y = nI s := by
  rcases h y hy hm with ⟨z, _⟩ | ⟨_, _, s, hs, e1, _⟩
  · rw [hc] at z; cases z
  · exact ⟨s, hU s hs, e1⟩
theorem sc_FO_s {g : Nat → Nat} {U : Nat → Prop} {n0 : Nat} {sz : Nat → Nat} {lb c2 c3 fv c2' c3' fk fn fvl fc gk gn gek gev gvk gvv : Nat → Int32} {i w : Nat} (h : sc_FO g U n0 sz lb c2 c3 fv c2' c3' fk fn fvl fc gk gn gek gev gvk gvv i w) (hU : ∀ s, U s → s < 34) : ∀ y, y < 8 → bt (fc i) y = true → ∃ s, s < 34 ∧ fvl (i * 8 + y) = nI s := by
  intro y hy hc
  obtain ⟨n, h1, h2, h3, h4⟩ := h
  rcases h4 with ⟨k, b, a1, a2, a3, a4, a5, a6⟩ | ⟨k, a1, c, a2, a3⟩ | ⟨k1, k2, b, e, a1, a2, a3, a4, a5, a6, a7, a8, a9⟩ | ⟨k1, k2, x, b, a1, a2, a3, a4, a5, a6, a7, a8⟩
  · exact sc_RW_s a5 hU hy (a6 y hy hc) hc
  · rw [a2] at hc
    obtain ⟨rfl, rfl⟩ := sc_bi1 c y hy hc
    rcases a3 with ⟨z, _⟩ | ⟨_, _, t, ht, e1, _⟩
    · cases z
    · exact ⟨t, hU t ht, e1⟩
  · exact sc_RW_s a8 hU hy (a9 y hy hc) hc
  · exact sc_RW_s a7 hU hy (a8 y hy hc) hc
theorem sc_HN_s {g : Nat → Nat} {U : Nat → Prop} {n0 : Nat} {kd fv sl slv slc cl ck cv : Nat → Int32} {s : Nat} (h : sc_HN g U n0 kd fv sl slv slc cl ck cv s) (hU : ∀ s, U s → s < 34) : ∀ y, y < 8 → bt (slc s) y = true → ∃ t, t < 34 ∧ slv (s * 8 + y) = nI t := by
  intro y hy hc
  obtain ⟨l, h1, h2, h3, h4, h5, h6, h7⟩ := h
  exact sc_RW_s h5 hU hy (h6 y hy hc) hc
theorem sc_YS0 {T : Nat} {mk wk : Nat → Int32} {q w : Nat → Nat} : sc_YS T (sc_wr mk 0 (fun _ => 0) T) wk 0 0 0 0 q w := by
  refine ⟨rfl, rfl, Nat.le_refl 0, fun i hi => absurd hi (Nat.not_lt_zero i), fun i j hi => absurd hi (Nat.not_lt_zero i), fun j hj => Or.inr ⟨sc_wr_z hj, ?_⟩, fun i hi => absurd hi (Nat.not_lt_zero i)⟩
  intro h
  obtain ⟨i, hi, _⟩ := h
  exact absurd hi (Nat.not_lt_zero i)
section
variable {fu ll dl nc ss hk hv ca pk st ev cu ec va vc dp rc hK hV ct wt lc yc rK rV : Int32} {nk nl n2 k1 k2 k3 nf sk en fk fn fl fm iu sl sw sm rs Nk N2 C1 C2 C3 cl ck cv mk wk rm gk gn ge gv gp gq yk yv : Nat → Int32}
variable {F L D N S A P T d n q Q M : Nat} {sz g : Nat → Nat} {U SR : Nat → Prop}
theorem sc_HF_U (hH : sc_HF g U N sz T d Q nk nl k2 k3 nf C2 C3 fk fn fl fm iu sl sw sm cl ck cv gk gn ge gv gp gq) : (∀ s, U s → s < 34 ∧ g s < T) ∧ (∀ i, i < d → ∃ v, sc_FO g U N sz nl k2 k3 nf C2 C3 fk fn fl fm gk gn ge gv gp gq i v) := ⟨fun s hs => ⟨(hH.1.1 s hs).1, (hH.1.1 s hs).2.2⟩, fun i hi => sc_FS_at hH.2.2 hi⟩
theorem sc_HF_V (hH : sc_HF g U N sz T d Q nk nl k2 k3 nf C2 C3 fk fn fl fm iu sl sw sm cl ck cv gk gn ge gv gp gq) (hS : ∀ s, SR s → U s) : ∀ s, sc_rc (sc_RX SR fl fm d) (sc_EX sw sm) s → U s := by
  obtain ⟨hU, hF⟩ := sc_HF_U hH
  refine sc_iso1 ?_ ?_
  · intro s h
    rcases h with h | ⟨i, hi, h⟩
    · exact hS s h
    · obtain ⟨v, hv⟩ := hF i hi
      exact sc_FO_k hv (fun s hs => (hU s hs).1) s h
  · intro s t h e
    exact sc_HN_k (hH.2.1 s h) (fun s hs => (hU s hs).1) e
/-- the relation behind a check: what is known is what was reached -/
theorem sc_after {c : Nat} {qq : Nat → Nat} {iu' rs' : Nat → Int32} {rc' : Int32} (hH : sc_HF g U N sz T d Q nk nl k2 k3 nf C2 C3 fk fn fl fm iu sl sw sm cl ck cv gk gn ge gv gp gq) (hS : ∀ s, SR s → U s) (hX : sc_XS iu' rs' rc' c qq) (hin : ∀ s, sc_in c qq s ↔ sc_rc (sc_RX SR fl fm d) (sc_EX sw sm) s) (hc : c ≤ 32) : sc_HF g (sc_rc (sc_RX SR fl fm d) (sc_EX sw sm)) N sz T d Q nk nl k2 k3 nf C2 C3 fk fn fl fm iu' sl sw sm cl ck cv gk gn ge gv gp gq ∧ sc_IU 32 iu' := by
  have hV := sc_HF_V hH hS
  have hU := (sc_HF_U hH).1
  refine ⟨⟨sc_HB_r hH.1 (fun s hs => ⟨hV s hs, ?_⟩), fun s hs => sc_HN_r (hH.2.1 s (hV s hs)) (fun s hs => (hU s hs).1) (fun t e => sc_rc_e hs e), sc_FS_m (fun i w hi h => sc_FO_r h (fun s hs => (hU s hs).1) (fun s hs => sc_rc_r (Or.inr ⟨i, hi, hs⟩))) hH.2.2⟩, ?_⟩
  · rcases hX.2.2.2 s (hU s (hV s hs)).1 with h | h
    · exact h.1
    · exact absurd ((hin s).mpr hs) h.2
  · refine ⟨fun s hs => ?_, c, qq, hc, fun s hs h1 => ?_⟩
    · rcases hX.2.2.2 s hs with h | h
      · exact Or.inr h.1
      · exact Or.inl h.1
    · rcases hX.2.2.2 s hs with h | h
      · exact h.2
      · rw [h.1] at h1
        exact absurd h1 (by decide)
theorem sj_R {s0 : Nat} (hL : L ≤ 32) (hN : N ≤ 32) (hP : P ≤ 34) (hd : d ≤ 32) (hT : T ≤ 4096) (hH : sc_HF g U N sz T d Q nk nl k2 k3 nf C2 C3 fk fn fl fm iu sl sw sm cl ck cv gk gn ge gv gp gq) (hs : U s0) : ∃ iu' rs' rc' c qq mk1 wk1 lc1 wt1 mk' wk' lc' wt', sc_XS iu' rs' rc' c qq ∧ (∀ s, sc_in c qq s ↔ sc_rc (sc_RX (fun s => s = s0) fl fm d) (sc_EX sw sm) s) ∧ (∀ post : SX → Prop, post (nI F, nI L, nI D, nI N, nI S, 0, 0, nI A, nI (if c ≤ P then P else c), if c ≤ L then -2 else 6, 0, cu, ec, nI s0, vc, nI d, rc', nk, nl, n2, k1, k2, k3, nf, sk, en, fk, fn, fl, fm, iu', sl, sw, sm, rs') → wpX_checkLive post (nI F, nI L, nI D, nI N, nI S, 0, 0, nI A, nI P, -2, 0, cu, ec, nI s0, vc, nI d, rc, nk, nl, n2, k1, k2, k3, nf, sk, en, fk, fn, fl, fm, iu, sl, sw, sm, rs)) ∧ (∀ post : SY → Prop, post (nI F, nI L, nI D, nI N, nI S, 0, 0, nI A, nI P, nI T, wt1, lc1, nI d, ev, yc, rK, rV, Nk, nl, N2, C1, C2, C3, nf, sk, cl, ck, cv, mk1, wk1, rm, gk, gn, ge, gv, gp, gq, yk, yv, 32768, 32768) → wpY_markValue post (nI F, nI L, nI D, nI N, nI S, 0, 0, nI A, nI P, nI T, 0, 0, nI d, ev, yc, rK, rV, Nk, nl, N2, C1, C2, C3, nf, sk, cl, ck, cv, sc_wr mk 0 (fun _ => 0) T, wk, rm, gk, gn, ge, gv, gp, gq, yk, yv, 32768, 32768) 2 (nI (g s0))) ∧ (∀ post : Int32 → SY → Prop, post (if c ≤ L then -2 else 6) (nI F, nI L, nI D, nI N, nI S, 0, 0, nI A, nI (if c ≤ P then P else c), nI T, wt', lc', nI d, ev, yc, rK, rV, Nk, nl, N2, C1, C2, C3, nf, sk, cl, ck, cv, mk', wk', rm, gk, gn, ge, gv, gp, gq, yk, yv, 32768, 32768) → wpY_endCheck post (nI F, nI L, nI D, nI N, nI S, 0, 0, nI A, nI P, nI T, wt1, lc1, nI d, ev, yc, rK, rV, Nk, nl, N2, C1, C2, C3, nf, sk, cl, ck, cv, mk1, wk1, rm, gk, gn, ge, gv, gp, gq, yk, yv, 32768, 32768)) := by
  obtain ⟨hU, hF⟩ := sc_HF_U hH
  have hS : ∀ s, s = s0 → U s := fun s e => e ▸ hs
  have hV := sc_HF_V (SR := fun s => s = s0) hH hS
  obtain ⟨iu', rs', rc', c, qq, a1, a2, KX⟩ := xw_checkR (fu := nI F) (dl := nI D) (nc := nI N) (ss := nI S) (hk := 0) (hv := 0) (ca := nI A) (st := -2) (cu := cu) (ec := ec) (vc := vc) (rc := rc) (nk := nk) (nl := nl) (n2 := n2) (k1 := k1) (k2 := k2) (k3 := k3) (nf := nf) (sk := sk) (en := en) (fk := fk) (fn := fn) (fl := fl) (fm := fm) (iu := iu) (sl := sl) (sw := sw) (sm := sm) (rs := rs) (d := d) (L := L) (P := P) (s0 := s0) hd (by omega) (by omega) (hU s0 hs).1 (fun i hi => by
    obtain ⟨v, hv⟩ := hF i hi
    exact sc_FO_s hv (fun s hs => (hU s hs).1)) (fun s h => sc_HN_s (hH.2.1 s (hV s h)) (fun s hs => (hU s hs).1))
  obtain ⟨mk1, wk1, lc1, wt1, c1, p1, q1, w1, b1, b2, b3, b4, K1⟩ := yw_mark (fu := nI F) (ll := nI L) (dl := nI D) (nc := nI N) (bs := nI S) (hK := 0) (hV := 0) (ca := nI A) (pk := nI P) (ct := nI T) (sp := nI d) (ye := ev) (yc := yc) (rK := rK) (rV := rV) (Nk := Nk) (Na := nl) (N2 := N2) (C1 := C1) (C2 := C2) (C3 := C3) (Nf := nf) (bk := sk) (cl := cl) (ck := ck) (cv := cv) (rm := rm) (gk := gk) (gn := gn) (ge := ge) (gv := gv) (gp := gp) (gq := gq) (yk := yk) (yv := yv) (k := 2) (v := nI (g s0)) (sc_YS0 (T := T) (mk := mk) (wk := wk) (q := fun i => i) (w := fun i => i)) hT (fun _ => ⟨g s0, (hU s0 hs).2, rfl⟩)
  have hp1 : p1 = c1 := by have := b2.2.2.1; omega
  subst hp1
  have hg0 := (hU s0 hs).2
  have hq1 : ∀ i, i < p1 → q1 i = g s0 := by
    intro i hi
    rcases b4 i hi with h | ⟨_, e⟩
    · exact absurd h (Nat.not_lt_zero i)
    · have := b1.2.2.2.1 i hi
      exact (sc_nIi e (by omega) (by omega)).symm
  obtain ⟨mk2, wk2, lc2, wt2, c2, q2, w2, d1, d2, K2⟩ := yw_end (SR := fun s => s = s0) (d := d) (L := L) (P := P) (fu := nI F) (dl := nI D) (nc := nI N) (bs := nI S) (hK := 0) (hV := 0) (ca := nI A) (ct := nI T) (ye := ev) (yc := yc) (rK := rK) (rV := rV) (Nk := Nk) (N2 := N2) (C1 := C1) (bk := sk) (rm := rm) (yk := yk) (yv := yv) b1 hT (by omega) (by omega) hd hN hU hF hH.2.1 hS (fun i hi => ⟨s0, rfl, hq1 i hi⟩) (fun s e => by
    obtain ⟨j, hj, e2, e3⟩ := b3 rfl
    have : g s0 = j := sc_nIi e2 (by omega) (by omega)
    rw [e, this]
    exact e3) (fun i hi => by
    rcases b2.2.2.2 i hi with h | h
    · exact absurd h (Nat.not_lt_zero i)
    · exact h)
  have hcc : c = c2 := sc_same a1.2.2.1 d1.2.2.2.2.1 a2 d2 (fun s t h1 h2 e => hH.1.2 s t (hV s h1) (hV t h2) e)
  subst hcc
  exact ⟨iu', rs', rc', c, qq, mk1, wk1, lc1, wt1, mk2, wk2, lc2, wt2, a1, a2, KX, K1, K2⟩
theorem sj_E {b : Nat} (hL : L ≤ 32) (hN : N ≤ 32) (hP : P ≤ 34) (hd : d ≤ 32) (hT : T ≤ 4096) (hb : b < N) (hH : sc_HF g U N sz T d Q nk nl k2 k3 nf C2 C3 fk fn fl fm iu sl sw sm cl ck cv gk gn ge gv gp gq) (hR : sc_RW g U (nf b) en ec yk yv) : (∀ s, (s < 34 ∧ ∃ y, y < 8 ∧ bt (ec &&& nf b) y = true ∧ en y = nI s) → U s) ∧ ∃ iu' rs' rc' c qq mk1 wk1 lc1 wt1 mk' wk' lc' wt', sc_XS iu' rs' rc' c qq ∧ (∀ s, sc_in c qq s ↔ sc_rc (sc_RX (fun s => s < 34 ∧ ∃ y, y < 8 ∧ bt (ec &&& nf b) y = true ∧ en y = nI s) fl fm d) (sc_EX sw sm) s) ∧ (∀ post : SX → Prop, post (nI F, nI L, nI D, nI N, nI S, 0, 0, nI A, nI (if c ≤ P then P else c), if c ≤ L then -2 else 6, 1, nI b, ec, va, vc, nI d, rc', nk, nl, n2, k1, k2, k3, nf, sk, en, fk, fn, fl, fm, iu', sl, sw, sm, rs') → wpX_checkLive post (nI F, nI L, nI D, nI N, nI S, 0, 0, nI A, nI P, -2, 1, nI b, ec, va, vc, nI d, rc, nk, nl, n2, k1, k2, k3, nf, sk, en, fk, fn, fl, fm, iu, sl, sw, sm, rs)) ∧ (∀ post : SY → Prop, post (nI F, nI L, nI D, nI N, nI S, 0, 0, nI A, nI P, nI T, wt1, lc1, nI d, ev, yc, rK, rV, Nk, nl, N2, C1, C2, C3, nf, sk, cl, ck, cv, mk1, wk1, rm, gk, gn, ge, gv, gp, gq, yk, yv, 32768, 32768) → wpY_markEnv post (nI F, nI L, nI D, nI N, nI S, 0, 0, nI A, nI P, nI T, 0, 0, nI d, ev, yc, rK, rV, Nk, nl, N2, C1, C2, C3, nf, sk, cl, ck, cv, sc_wr mk 0 (fun _ => 0) T, wk, rm, gk, gn, ge, gv, gp, gq, yk, yv, 32768, 32768) (nf b)) ∧ (∀ post : Int32 → SY → Prop, post (if c ≤ L then -2 else 6) (nI F, nI L, nI D, nI N, nI S, 0, 0, nI A, nI (if c ≤ P then P else c), nI T, wt', lc', nI d, ev, yc, rK, rV, Nk, nl, N2, C1, C2, C3, nf, sk, cl, ck, cv, mk', wk', rm, gk, gn, ge, gv, gp, gq, yk, yv, 32768, 32768) → wpY_endCheck post (nI F, nI L, nI D, nI N, nI S, 0, 0, nI A, nI P, nI T, wt1, lc1, nI d, ev, yc, rK, rV, Nk, nl, N2, C1, C2, C3, nf, sk, cl, ck, cv, mk1, wk1, rm, gk, gn, ge, gv, gp, gq, yk, yv, 32768, 32768)) := by
  obtain ⟨hU, hF⟩ := sc_HF_U hH
  have hS : ∀ s, (s < 34 ∧ ∃ y, y < 8 ∧ bt (ec &&& nf b) y = true ∧ en y = nI s) → U s := by
    intro s h
    obtain ⟨h34, y, hy, hc, e⟩ := h
    rw [b_and] at hc
    have hc := Bool.and_eq_true_iff.mp hc
    exact (sc_RW_k hR (fun s hs => (hU s hs).1) hy hc.2 hc.1 h34 e).1
  refine ⟨hS, ?_⟩
  have hV := sc_HF_V (SR := fun s => s < 34 ∧ ∃ y, y < 8 ∧ bt (ec &&& nf b) y = true ∧ en y = nI s) hH hS
  obtain ⟨iu', rs', rc', c, qq, a1, a2, KX⟩ := xw_checkE (fu := nI F) (dl := nI D) (nc := nI N) (ss := nI S) (hk := 0) (hv := 0) (ca := nI A) (st := -2) (ec := ec) (va := va) (vc := vc) (rc := rc) (nk := nk) (nl := nl) (n2 := n2) (k1 := k1) (k2 := k2) (k3 := k3) (nf := nf) (sk := sk) (en := en) (fk := fk) (fn := fn) (fl := fl) (fm := fm) (iu := iu) (sl := sl) (sw := sw) (sm := sm) (rs := rs) (d := d) (L := L) (P := P) (n := b) hd (by omega) (by omega) (by omega) (fun y hy hc => by
    rw [b_and] at hc
    have hc := Bool.and_eq_true_iff.mp hc
    exact sc_RW_s hR (fun s hs => (hU s hs).1) hy hc.2 hc.1) (fun i hi => by
    obtain ⟨v, hv⟩ := hF i hi
    exact sc_FO_s hv (fun s hs => (hU s hs).1)) (fun s h => sc_HN_s (hH.2.1 s (hV s h)) (fun s hs => (hU s hs).1))
  obtain ⟨mk1, wk1, lc1, wt1, c1, p1, q1, w1, b1, b2, b3, b4, K1⟩ := yw_rowE (fu := nI F) (ll := nI L) (dl := nI D) (nc := nI N) (bs := nI S) (hK := 0) (hV := 0) (ca := nI A) (pk := nI P) (ct := nI T) (sp := nI d) (ye := ev) (yc := yc) (rK := rK) (rV := rV) (Nk := Nk) (Na := nl) (N2 := N2) (C1 := C1) (C2 := C2) (C3 := C3) (Nf := nf) (bk := sk) (cl := cl) (ck := ck) (cv := cv) (rm := rm) (gk := gk) (gn := gn) (ge := ge) (gv := gv) (gp := gp) (gq := gq) (yk := yk) (yv := yv) (m := nf b) (sc_YS0 (T := T) (mk := mk) (wk := wk) (q := fun i => i) (w := fun i => i)) hT (fun y hy hm e => by
    obtain ⟨s, hs, _, _, e2⟩ := sc_rc1 hR (fun s hs => (hU s hs).2) hy hm e
    exact ⟨g s, (hU s hs).2, e2⟩)
  have hp1 : p1 = c1 := by have := b2.2.2.1; omega
  subst hp1
  obtain ⟨mk2, wk2, lc2, wt2, c2, q2, w2, d1, d2, K2⟩ := yw_end (SR := fun s => s < 34 ∧ ∃ y, y < 8 ∧ bt (ec &&& nf b) y = true ∧ en y = nI s) (d := d) (L := L) (P := P) (fu := nI F) (dl := nI D) (nc := nI N) (bs := nI S) (hK := 0) (hV := 0) (ca := nI A) (ct := nI T) (ye := ev) (yc := yc) (rK := rK) (rV := rV) (Nk := Nk) (N2 := N2) (C1 := C1) (bk := sk) (rm := rm) (yk := yk) (yv := yv) b1 hT (by omega) (by omega) hd hN hU hF hH.2.1 hS (fun i hi => by
    rcases b4 i hi with h | ⟨y, hy, hm, e1, e2⟩
    · exact absurd h (Nat.not_lt_zero i)
    · obtain ⟨s, hs, hc, e3, e4⟩ := sc_rc1 hR (fun s hs => (hU s hs).2) hy hm e1
      have h1 := (hU s hs).2
      have h2 := b1.2.2.2.1 i hi
      exact ⟨s, ⟨(hU s hs).1, y, hy, by rw [b_and, hc, hm]; rfl, e3⟩, sc_nIi (e2.symm.trans e4) (by omega) (by omega)⟩) (fun s h => by
    obtain ⟨h34, y, hy, hc, e⟩ := h
    rw [b_and] at hc
    have hc := Bool.and_eq_true_iff.mp hc
    obtain ⟨e1, e2, e3⟩ := sc_RW_k hR (fun s hs => (hU s hs).1) hy hc.2 hc.1 h34 e
    obtain ⟨j, hj, e4, e5⟩ := b3 y hy hc.2 e2
    have h1 := (hU s e1).2
    have : g s = j := sc_nIi (e3.symm.trans e4) (by omega) (by omega)
    rw [this]
    exact e5) (fun i hi => by
    rcases b2.2.2.2 i hi with h | h
    · exact absurd h (Nat.not_lt_zero i)
    · exact h)
  have hcc : c = c2 := sc_same a1.2.2.1 d1.2.2.2.2.1 a2 d2 (fun s t h1 h2 e => hH.1.2 s t (hV s h1) (hV t h2) e)
  subst hcc
  exact ⟨iu', rs', rc', c, qq, mk1, wk1, lc1, wt1, mk2, wk2, lc2, wt2, a1, a2, KX, K1, K2⟩
end
