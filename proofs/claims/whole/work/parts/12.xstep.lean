/-! ===== the component's walks: frames, calls ===== -/
section
variable {fu ll dl nc ss hk hv ca pk st ev cu ec va vc dp rc : Int32} {nk nl n2 k1 k2 k3 nf sk en fk fn fl fm iu sl sw sm rs : Nat → Int32}
theorem xw_first {post : SX → Prop} {n d D : Nat} {f m : Int32} (hn : n < 32) (hd : d < D) (hD : D ≤ 32) (h : post (fu, ll, nI D, nc, ss, hk, hv, ca, pk, st, 1, k1 n, ec, va, vc, nI (d + 1), rc, nk, nl, n2, k1, k2, k3, nf, sk, en, upd fk d f, upd fn d (nI n), sc_wr fl (d * 8) en 8, upd fm d (ec &&& m), iu, sl, sw, sm, rs)) : wpX_evalFirstChild post (fu, ll, nI D, nc, ss, hk, hv, ca, pk, st, ev, cu, ec, va, vc, nI d, rc, nk, nl, n2, k1, k2, k3, nf, sk, en, fk, fn, fl, fm, iu, sl, sw, sm, rs) (nI n) f m := by
  unfold wpX_evalFirstChild
  refine br_t (nI_lt hd (by omega)) ⟨vp_in_nI (by omega) (by omega), nm_r (e' := upd fk d f) (by rw [nI_clamp (by omega)]) ⟨vp_in_nI (by omega) (by omega), nm_r (e' := upd fn d (nI n)) (by rw [nI_clamp (by omega)]) ?_⟩⟩
  rw [sc_m8]
  refine xw_saveF (by omega) ⟨vp_in_nI (by omega) (by omega), nm_r (e' := upd fm d (ec &&& m)) (by rw [nI_clamp (by omega)]) (nm_r (nI_1 d) ⟨vp_in_nI hn (by omega), ?_⟩)⟩
  rw [nI_clamp (n := n) (by omega)]
  exact h
theorem xw_deep {post : SX → Prop} {d D : Nat} {n f m : Int32} (hd : D ≤ d) (hD : d < 2 ^ 31) (h : post (fu, ll, nI D, nc, ss, hk, hv, ca, pk, 5, ev, cu, ec, va, vc, nI d, rc, nk, nl, n2, k1, k2, k3, nf, sk, en, fk, fn, fl, fm, iu, sl, sw, sm, rs)) : wpX_evalFirstChild post (fu, ll, nI D, nc, ss, hk, hv, ca, pk, st, ev, cu, ec, va, vc, nI d, rc, nk, nl, n2, k1, k2, k3, nf, sk, en, fk, fn, fl, fm, iu, sl, sw, sm, rs) n f m := by
  unfold wpX_evalFirstChild
  exact br_f (nI_nlt hd hD) h
theorem xw_second {post : SX → Prop} {n d : Nat} {f : Int32} {c : Bool} (hn : n < 32) (hd : d < 32) (h : post (fu, ll, dl, nc, ss, hk, hv, ca, pk, st, 1, k2 n, fm d, va, sc_bi c, nI (d + 1), rc, nk, nl, n2, k1, k2, k3, nf, sk, sc_wr en 0 (fun y => fl (d * 8 + y)) 8, upd fk d f, fn, upd fl (d * 8) va, upd fm d (sc_bi c), iu, sl, sw, sm, rs)) : wpX_evalSecondChild post (fu, ll, dl, nc, ss, hk, hv, ca, pk, st, ev, cu, ec, va, sc_bi c, nI d, rc, nk, nl, n2, k1, k2, k3, nf, sk, en, fk, fn, fl, fm, iu, sl, sw, sm, rs) (nI n) f := by
  unfold wpX_evalSecondChild
  refine nm_r (sc_m8 d) ⟨vp_in_nI hd (by omega), ?_⟩
  rw [nI_clamp (n := d) (by omega)]
  refine xw_loadF (by omega) ⟨vp_in_nI hd (by omega), nm_r (e' := upd fk d f) (by rw [nI_clamp (by omega)]) ⟨vp_in_nI (by omega) (by omega), nm_r (e' := upd fl (d * 8) va) (by rw [nI_clamp (by omega)]) ?_⟩⟩
  cases c
  · refine br_t rfl ⟨vp_in_nI hd (by omega), nm_r (e' := upd fm d 0) (by rw [nI_clamp (by omega)]) (nm_r (nI_1 d) ⟨vp_in_nI hn (by omega), ?_⟩)⟩
    rw [nI_clamp (n := n) (by omega)]
    exact h
  · refine br_f (by decide) ⟨vp_in_nI hd (by omega), nm_r (e' := upd fm d 1) (by rw [nI_clamp (by omega)]) (nm_r (nI_1 d) ⟨vp_in_nI hn (by omega), ?_⟩)⟩
    rw [nI_clamp (n := n) (by omega)]
    exact h
theorem xw_call {post : SX → Prop} {s l x A F : Nat} {c : Bool} (hs : s < 34) (hl : l < 32) (hx : x < 8) (el : sl s = nI l) (ex : nl l = nI x) (hA : A < F) (hF : F < 2 ^ 31) (h : post (nI F, ll, dl, nc, ss, hk, hv, nI (A + 1), pk, st, 1, k1 l, sc_bm (sm s) x c, va, sc_bi c, dp, rc, nk, nl, n2, k1, k2, k3, nf, sk, upd (sc_wr en 0 (fun y => sw (s * 8 + y)) 8) x va, fk, fn, fl, fm, iu, sl, sw, sm, rs)) : wpX_callStep post (nI F, ll, dl, nc, ss, hk, hv, nI A, pk, st, ev, cu, ec, va, sc_bi c, dp, rc, nk, nl, n2, k1, k2, k3, nf, sk, en, fk, fn, fl, fm, iu, sl, sw, sm, rs) (nI s) := by
  unfold wpX_callStep
  refine br_t (nI_lt hA hF) (nm_r (nI_1 A) ⟨vp_in_nI hs (by omega), nm_r (e' := nI l) (by rw [nI_clamp (by omega)]; exact el) ⟨vp_in_nI hs (by omega), ?_⟩⟩)
  rw [sc_m8, nI_clamp (n := s) (by omega)]
  refine xw_loadS (by omega) ⟨vp_in_nI hl (by omega), ?_⟩
  rw [nI_clamp (n := l) (by omega), ex]
  refine xw_bind hx va c ⟨vp_in_nI hl (by omega), ?_⟩
  exact h
theorem xw_nofuel {post : SX → Prop} {F : Nat} {s : Int32} (hF : F < 2 ^ 31) (h : post (nI F, ll, dl, nc, ss, hk, hv, nI F, pk, 4, ev, cu, ec, va, vc, dp, rc, nk, nl, n2, k1, k2, k3, nf, sk, en, fk, fn, fl, fm, iu, sl, sw, sm, rs)) : wpX_callStep post (nI F, ll, dl, nc, ss, hk, hv, nI F, pk, st, ev, cu, ec, va, vc, dp, rc, nk, nl, n2, k1, k2, k3, nf, sk, en, fk, fn, fl, fm, iu, sl, sw, sm, rs) s := by
  unfold wpX_callStep
  exact br_f (nI_nlt (Nat.le_refl F) hF) h
end
