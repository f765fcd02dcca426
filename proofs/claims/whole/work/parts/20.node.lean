/-! ===== nodes made, both sides ===== -/
theorem sc_sum_add (f : Nat → Nat) (B : Nat) : ∀ c, sc_sum f (B + c) = sc_sum f B + sc_sum (fun j => f (B + j)) c := by
  intro c
  induction c with
  | zero => rfl
  | succ c ih =>
    show sc_sum f (B + c) + f (B + c) = sc_sum f B + (sc_sum (fun j => f (B + j)) c + f (B + c))
    omega
theorem sc_sum_c {f h : Nat → Nat} : ∀ c, (∀ j, j < c → f j = h j) → sc_sum f c = sc_sum h c := by
  intro c
  induction c with
  | zero => intro _; rfl
  | succ c ih =>
    intro e
    show sc_sum f c + f c = sc_sum h c + h c
    rw [ih (fun j hj => e j (by omega)), e c (by omega)]
theorem sc_nd_c {sz sz' : Nat → Nat} {nk nl n2 k1 k2 k3 nf Nk N2 C1 C2 C3 nk' nl' n2' k1' k2' k3' nf' Nk' N2' C1' C2' C3' : Nat → Int32} {i : Nat} (h : sc_nd sz nk nl n2 k1 k2 k3 nf Nk N2 C1 C2 C3 i) (ez : ∀ j, j ≤ i → sz' j = sz j) (e1 : ∀ j, j ≤ i → nk' j = nk j) (e2 : ∀ j, j ≤ i → nl' j = nl j) (e3 : ∀ j, j ≤ i → n2' j = n2 j) (e4 : ∀ j, j ≤ i → k1' j = k1 j) (e5 : ∀ j, j ≤ i → k2' j = k2 j) (e6 : ∀ j, j ≤ i → k3' j = k3 j) (e7 : ∀ j, j ≤ i → nf' j = nf j) (e8 : ∀ j, j ≤ i → Nk' j = Nk j) (e9 : ∀ j, j ≤ i → N2' j = N2 j) (e10 : ∀ j, j ≤ i → C1' j = C1 j) (e11 : ∀ j, j ≤ i → C2' j = C2 j) (e12 : ∀ j, j ≤ i → C3' j = C3 j) : sc_nd sz' nk' nl' n2' k1' k2' k3' nf' Nk' N2' C1' C2' C3' i := by
  obtain ⟨h1, h2⟩ := h
  have le : i ≤ i := Nat.le_refl i
  unfold sc_nd
  rw [ez i le, e1 i le, e2 i le, e3 i le, e4 i le, e5 i le, e6 i le, e7 i le, e8 i le, e9 i le, e10 i le, e11 i le, e12 i le]
  refine ⟨h1, ?_⟩
  have F : ∀ b, b < i → ∀ y, bt (nf' b) y = true → bt (nf b) y = true := fun b hb y h => by rw [e7 b (by omega)] at h; exact h
  rcases h2 with h | ⟨x1, x2, h⟩ | ⟨x1, x2, x, b, hx, hb, a1, a2, a3, a4, a5⟩ | ⟨x12, a, b, ha, hb, a1, a2, a3, a4, a5, a6, a7⟩ | ⟨x1, x2, a, b, e, ha, hb, he, a1, a2, a3, a4, a5, a6, a7, a8, a9, a10⟩ | ⟨x1, x2, x, a, b, hx, ha, hb, a1, a2, a3, a4, a5, a6, a7, a8⟩ | ⟨x1, x2, x, l, b, hx, hl, hb, a1, a2, a3, a4, a5, a6, a7, a8, a9, a10⟩ | ⟨x1, x2, x, z, l, m, b, hx, hz, hxz, hl, hm, hb, a1, a2, a3, a4, a5, a6, a7, a8, a9, a10, a11, a12, a13, a14, a15⟩
  · exact Or.inl h
  · exact Or.inr (Or.inl ⟨x1, x2, h⟩)
  · exact Or.inr (Or.inr (Or.inl ⟨x1, x2, x, b, hx, hb, a1, a2, a3, by rw [ez b (by omega)]; exact a4, fun y hy h => a5 y hy (F b hb y h)⟩))
  · exact Or.inr (Or.inr (Or.inr (Or.inl ⟨x12, a, b, ha, hb, a1, a2, a3, a4, by rw [ez a (by omega), ez b (by omega)]; exact a5, fun y hy h => a6 y hy (F a ha y h), fun y hy h => a7 y hy (F b hb y h)⟩)))
  · exact Or.inr (Or.inr (Or.inr (Or.inr (Or.inl ⟨x1, x2, a, b, e, ha, hb, he, a1, a2, a3, a4, a5, a6, by rw [ez a (by omega), ez b (by omega), ez e (by omega)]; exact a7, fun y hy h => a8 y hy (F a ha y h), fun y hy h => a9 y hy (F b hb y h), fun y hy h => a10 y hy (F e he y h)⟩))))
  · exact Or.inr (Or.inr (Or.inr (Or.inr (Or.inr (Or.inl ⟨x1, x2, x, a, b, hx, ha, hb, a1, a2, a3, a4, a5, by rw [ez a (by omega), ez b (by omega)]; exact a6, fun y hy h => a7 y hy (F a ha y h), fun y hy h => a8 y hy (F b hb y h)⟩)))))
  · exact Or.inr (Or.inr (Or.inr (Or.inr (Or.inr (Or.inr (Or.inl ⟨x1, x2, x, l, b, hx, hl, hb, a1, by rw [e1 l (by omega)]; exact a2, a3, a4, a5, a6, a7, by rw [ez l (by omega), ez b (by omega)]; exact a8, fun y hy h => a9 y hy (F l hl y h), fun y hy h => a10 y hy (F b hb y h)⟩))))))
  · exact Or.inr (Or.inr (Or.inr (Or.inr (Or.inr (Or.inr (Or.inr ⟨x1, x2, x, z, l, m, b, hx, hz, hxz, hl, hm, hb, a1, a2, a3, by rw [e1 l (by omega)]; exact a4, by rw [e1 m (by omega)]; exact a5, a6, a7, a8, a9, a10, a11, by rw [ez l (by omega), ez m (by omega), ez b (by omega)]; exact a12, fun y hy h => a13 y hy (F l hl y h), fun y hy h => a14 y hy (F m hm y h), fun y hy h => a15 y hy (F b hb y h)⟩))))))
section
variable {fu ll dl nc ss hk hv ca pk st ev cu ec va vc dp rc hK hV ct wt lc yc rK rV : Int32} {nk nl n2 k1 k2 k3 nf sk en fk fn fl fm iu sl sw sm rs Nk N2 C1 C2 C3 cl ck cv mk wk rm gk gn ge gv gp gq yk yv : Nat → Int32}
variable {F L D N S A P B c z : Nat} {sz : Nat → Nat} {v1 v2 v3 v4 v5 v6 v7 y1 y2 y3 y4 y5 : Int32}
theorem sc_BA_n (hB : sc_BA F L D N (B + c) A P sz nk nl n2 k1 k2 k3 nf sk Nk N2 C1 C2 C3) (hN : N < 32) (hz : z = 1 + sc_sum (fun j => sz (sk (B + j)).toNatClampNeg) c) (hnd : sc_nd (fun i => if i = N then z else sz i) (upd nk N v1) (upd nl N v2) (upd n2 N v3) (upd k1 N v4) (upd k2 N v5) (upd k3 N v6) (upd nf N v7) (upd Nk N y1) (upd N2 N y2) (upd C1 N y3) (upd C2 N y4) (upd C3 N y5) N) : sc_BA F L D (N + 1) (B + 1) A P (fun i => if i = N then z else sz i) (upd nk N v1) (upd nl N v2) (upd n2 N v3) (upd k1 N v4) (upd k2 N v5) (upd k3 N v6) (upd nf N v7) (upd sk B (nI N)) (upd Nk N y1) (upd N2 N y2) (upd C1 N y3) (upd C2 N y4) (upd C3 N y5) := by
  obtain ⟨⟨b1, b2, b3, b4, b5, b6, b7, b8⟩, hP, hS, hsum⟩ := hB
  have hsum' : sc_sum (fun j => sz (sk j).toNatClampNeg) B + sc_sum (fun j => sz (sk (B + j)).toNatClampNeg) c = N := by
    rw [← hsum, sc_sum_add]
  have hle : B ≤ N := by omega
  refine ⟨⟨b1, b2, b3, b4, by omega, by omega, b7, b8⟩, ?_, ?_, ?_⟩
  · intro i hi
    by_cases e : i = N
    · subst e
      exact hnd
    · exact sc_nd_c (hP i (by omega)) (fun j hj => if_neg (by omega)) (fun j hj => pk_un (by omega)) (fun j hj => pk_un (by omega)) (fun j hj => pk_un (by omega)) (fun j hj => pk_un (by omega)) (fun j hj => pk_un (by omega)) (fun j hj => pk_un (by omega)) (fun j hj => pk_un (by omega)) (fun j hj => pk_un (by omega)) (fun j hj => pk_un (by omega)) (fun j hj => pk_un (by omega)) (fun j hj => pk_un (by omega)) (fun j hj => pk_un (by omega))
  · intro j hj
    by_cases e : j = B
    · subst e
      exact ⟨N, by omega, pk_us⟩
    · obtain ⟨i, hi, e2⟩ := hS j (by omega)
      exact ⟨i, by omega, by rw [pk_un e]; exact e2⟩
  · show sc_sum (fun j => (fun i => if i = N then z else sz i) (upd sk B (nI N) j).toNatClampNeg) B + (fun i => if i = N then z else sz i) (upd sk B (nI N) B).toNatClampNeg = N + 1
    rw [sc_sum_c (h := fun j => sz (sk j).toNatClampNeg) B ?_, pk_us, nI_clamp (by omega)]
    · dsimp only
      rw [if_pos rfl]
      omega
    · intro j hj
      obtain ⟨i, hi, e2⟩ := hS j (by omega)
      dsimp only
      rw [pk_un (by omega), e2, nI_clamp (by omega), if_neg (by omega)]
theorem sc_HD_n (h : sc_HD N hk hv hK hV ct nk nf iu sl sw sm cl ck cv) : sc_HD (N + 1) hk hv hK hV ct (upd nk N v1) (upd nf N v7) iu sl sw sm cl ck cv := by
  rcases h with h | h | ⟨h1, h2, s, g, U, T, a1, a2, a3, a4, a5, a6, a7, a8⟩
  · exact Or.inl h
  · exact Or.inr (Or.inl h)
  · refine Or.inr (Or.inr ⟨h1, h2, s, g, U, T, a1, a2, a3, fun t ht => ?_, a5, a6, a7, a8⟩)
    obtain ⟨l, l1, l2, l3, l4, l5, l6, l7⟩ := a4 t ht
    have ne : l ≠ N := by omega
    have e : upd nf N v7 l = nf l := pk_un ne
    exact ⟨l, by omega, by rw [pk_un ne]; exact l2, l3, l4, by rw [e]; exact l5, by rw [e]; exact l6, by rw [e]; exact l7⟩
end
section
variable {fu ll dl nc ss hk hv ca pk st ev cu ec va vc dp rc : Int32} {nk nl n2 k1 k2 k3 nf sk en fk fn fl fm iu sl sw sm rs : Nat → Int32}
variable {N B : Nat} {p0 p1 p2 p4 : Int32}
theorem xw_node0 {post : Int32 → SX → Prop} (hN : N < 32) (hB : B + 0 ≤ N) (h : post (nI N) (fu, ll, dl, nI (N + 1), nI (B + 1), hk, hv, ca, pk, st, ev, cu, ec, va, vc, dp, rc, upd nk N p0, upd nl N p1, upd n2 N p2, upd k1 N (0), upd k2 N (0), upd k3 N (0), upd nf N p4, upd sk B (nI N), en, fk, fn, fl, fm, iu, sl, sw, sm, rs)) : wpX_makeNode post (fu, ll, dl, nI N, nI B, hk, hv, ca, pk, st, ev, cu, ec, va, vc, dp, rc, nk, nl, n2, k1, k2, k3, nf, sk, en, fk, fn, fl, fm, iu, sl, sw, sm, rs) p0 p1 p2 0 p4 := by
  unfold wpX_makeNode
  refine nm_r (e' := nI B) (Int32.sub_zero _) (nm_r (nI_1 N) ⟨vp_in_nI (by omega) (by omega), nm_r (e' := upd nk N p0) (by rw [nI_clamp (n := N) (by omega)]) ⟨vp_in_nI (by omega) (by omega), nm_r (e' := upd nl N p1) (by rw [nI_clamp (n := N) (by omega)]) ⟨vp_in_nI (by omega) (by omega), nm_r (e' := upd n2 N p2) (by rw [nI_clamp (n := N) (by omega)]) ⟨vp_in_nI (by omega) (by omega), nm_r (e' := upd nf N p4) (by rw [nI_clamp (n := N) (by omega)]) (br_t (by decide) ⟨vp_in_nI (by omega) (by omega), nm_r (e' := upd k1 N (0)) (by rw [nI_clamp (n := N) (by omega)]) (br_t (by decide) ⟨vp_in_nI (by omega) (by omega), nm_r (e' := upd k2 N (0)) (by rw [nI_clamp (n := N) (by omega)]) (br_t (by decide) ⟨vp_in_nI (by omega) (by omega), nm_r (e' := upd k3 N (0)) (by rw [nI_clamp (n := N) (by omega)]) ⟨vp_in_nI (by omega) (by omega), nm_r (e' := upd sk B (nI N)) (by rw [nI_clamp (n := B) (by omega)]) (nm_r (nI_1 B) h)⟩⟩)⟩)⟩)⟩⟩⟩⟩)
theorem xw_node1 {post : Int32 → SX → Prop} (hN : N < 32) (hB : B + 1 ≤ N) (h : post (nI N) (fu, ll, dl, nI (N + 1), nI (B + 1), hk, hv, ca, pk, st, ev, cu, ec, va, vc, dp, rc, upd nk N p0, upd nl N p1, upd n2 N p2, upd k1 N (sk B), upd k2 N (0), upd k3 N (0), upd nf N p4, upd sk B (nI N), en, fk, fn, fl, fm, iu, sl, sw, sm, rs)) : wpX_makeNode post (fu, ll, dl, nI N, nI (B + 1), hk, hv, ca, pk, st, ev, cu, ec, va, vc, dp, rc, nk, nl, n2, k1, k2, k3, nf, sk, en, fk, fn, fl, fm, iu, sl, sw, sm, rs) p0 p1 p2 1 p4 := by
  unfold wpX_makeNode
  refine nm_r (e' := nI B) ((pk_sub (a := B + 1) (b := 1) (by omega)).trans (congrArg nI (by omega))) (nm_r (nI_1 N) ⟨vp_in_nI (by omega) (by omega), nm_r (e' := upd nk N p0) (by rw [nI_clamp (n := N) (by omega)]) ⟨vp_in_nI (by omega) (by omega), nm_r (e' := upd nl N p1) (by rw [nI_clamp (n := N) (by omega)]) ⟨vp_in_nI (by omega) (by omega), nm_r (e' := upd n2 N p2) (by rw [nI_clamp (n := N) (by omega)]) ⟨vp_in_nI (by omega) (by omega), nm_r (e' := upd nf N p4) (by rw [nI_clamp (n := N) (by omega)]) (br_f (by decide) ⟨vp_in_nI (by omega) (by omega), ⟨vp_in_nI (by omega) (by omega), nm_r (e' := upd k1 N (sk B)) (by rw [nI_clamp (n := N) (by omega), nI_clamp (n := B) (by omega)]) (br_t (by decide) ⟨vp_in_nI (by omega) (by omega), nm_r (e' := upd k2 N (0)) (by rw [nI_clamp (n := N) (by omega)]) (br_t (by decide) ⟨vp_in_nI (by omega) (by omega), nm_r (e' := upd k3 N (0)) (by rw [nI_clamp (n := N) (by omega)]) ⟨vp_in_nI (by omega) (by omega), nm_r (e' := upd sk B (nI N)) (by rw [nI_clamp (n := B) (by omega)]) (nm_r (nI_1 B) h)⟩⟩)⟩)⟩⟩)⟩⟩⟩⟩)
theorem xw_node2 {post : Int32 → SX → Prop} (hN : N < 32) (hB : B + 2 ≤ N) (h : post (nI N) (fu, ll, dl, nI (N + 1), nI (B + 1), hk, hv, ca, pk, st, ev, cu, ec, va, vc, dp, rc, upd nk N p0, upd nl N p1, upd n2 N p2, upd k1 N (sk B), upd k2 N (sk (B + 1)), upd k3 N (0), upd nf N p4, upd sk B (nI N), en, fk, fn, fl, fm, iu, sl, sw, sm, rs)) : wpX_makeNode post (fu, ll, dl, nI N, nI (B + 2), hk, hv, ca, pk, st, ev, cu, ec, va, vc, dp, rc, nk, nl, n2, k1, k2, k3, nf, sk, en, fk, fn, fl, fm, iu, sl, sw, sm, rs) p0 p1 p2 2 p4 := by
  unfold wpX_makeNode
  refine nm_r (e' := nI B) ((pk_sub (a := B + 2) (b := 2) (by omega)).trans (congrArg nI (by omega))) (nm_r (nI_1 N) ⟨vp_in_nI (by omega) (by omega), nm_r (e' := upd nk N p0) (by rw [nI_clamp (n := N) (by omega)]) ⟨vp_in_nI (by omega) (by omega), nm_r (e' := upd nl N p1) (by rw [nI_clamp (n := N) (by omega)]) ⟨vp_in_nI (by omega) (by omega), nm_r (e' := upd n2 N p2) (by rw [nI_clamp (n := N) (by omega)]) ⟨vp_in_nI (by omega) (by omega), nm_r (e' := upd nf N p4) (by rw [nI_clamp (n := N) (by omega)]) (br_f (by decide) ⟨vp_in_nI (by omega) (by omega), ⟨vp_in_nI (by omega) (by omega), nm_r (e' := upd k1 N (sk B)) (by rw [nI_clamp (n := N) (by omega), nI_clamp (n := B) (by omega)]) (br_f (by decide) ⟨pk_in (B + 1) 32 (by omega) (nI_add B 1), ⟨vp_in_nI (by omega) (by omega), nm_r (e' := upd k2 N (sk (B + 1))) (by rw [nI_clamp (n := N) (by omega), nI_1 B, nI_clamp (n := B + 1) (by omega)]) (br_t (by decide) ⟨vp_in_nI (by omega) (by omega), nm_r (e' := upd k3 N (0)) (by rw [nI_clamp (n := N) (by omega)]) ⟨vp_in_nI (by omega) (by omega), nm_r (e' := upd sk B (nI N)) (by rw [nI_clamp (n := B) (by omega)]) (nm_r (nI_1 B) h)⟩⟩)⟩⟩)⟩⟩)⟩⟩⟩⟩)
theorem xw_node3 {post : Int32 → SX → Prop} (hN : N < 32) (hB : B + 3 ≤ N) (h : post (nI N) (fu, ll, dl, nI (N + 1), nI (B + 1), hk, hv, ca, pk, st, ev, cu, ec, va, vc, dp, rc, upd nk N p0, upd nl N p1, upd n2 N p2, upd k1 N (sk B), upd k2 N (sk (B + 1)), upd k3 N (sk (B + 2)), upd nf N p4, upd sk B (nI N), en, fk, fn, fl, fm, iu, sl, sw, sm, rs)) : wpX_makeNode post (fu, ll, dl, nI N, nI (B + 3), hk, hv, ca, pk, st, ev, cu, ec, va, vc, dp, rc, nk, nl, n2, k1, k2, k3, nf, sk, en, fk, fn, fl, fm, iu, sl, sw, sm, rs) p0 p1 p2 3 p4 := by
  unfold wpX_makeNode
  refine nm_r (e' := nI B) ((pk_sub (a := B + 3) (b := 3) (by omega)).trans (congrArg nI (by omega))) (nm_r (nI_1 N) ⟨vp_in_nI (by omega) (by omega), nm_r (e' := upd nk N p0) (by rw [nI_clamp (n := N) (by omega)]) ⟨vp_in_nI (by omega) (by omega), nm_r (e' := upd nl N p1) (by rw [nI_clamp (n := N) (by omega)]) ⟨vp_in_nI (by omega) (by omega), nm_r (e' := upd n2 N p2) (by rw [nI_clamp (n := N) (by omega)]) ⟨vp_in_nI (by omega) (by omega), nm_r (e' := upd nf N p4) (by rw [nI_clamp (n := N) (by omega)]) (br_f (by decide) ⟨vp_in_nI (by omega) (by omega), ⟨vp_in_nI (by omega) (by omega), nm_r (e' := upd k1 N (sk B)) (by rw [nI_clamp (n := N) (by omega), nI_clamp (n := B) (by omega)]) (br_f (by decide) ⟨pk_in (B + 1) 32 (by omega) (nI_add B 1), ⟨vp_in_nI (by omega) (by omega), nm_r (e' := upd k2 N (sk (B + 1))) (by rw [nI_clamp (n := N) (by omega), nI_1 B, nI_clamp (n := B + 1) (by omega)]) (br_f (by decide) ⟨pk_in (B + 2) 32 (by omega) (nI_add B 2), ⟨vp_in_nI (by omega) (by omega), nm_r (e' := upd k3 N (sk (B + 2))) (by rw [nI_clamp (n := N) (by omega), show nI B + 2 = nI (B + 2) from nI_add B 2, nI_clamp (n := B + 2) (by omega)]) ⟨vp_in_nI (by omega) (by omega), nm_r (e' := upd sk B (nI N)) (by rw [nI_clamp (n := B) (by omega)]) (nm_r (nI_1 B) h)⟩⟩⟩)⟩⟩)⟩⟩)⟩⟩⟩⟩)
theorem xw_at {post : Int32 → Prop} {S j k i : Nat} (hS : S = j + 1 + k) (h32 : S ≤ 32) (e : sk j = nI i) (hi : i < 32) (h : post (nf i)) : wpX_freeAt post (fu, ll, dl, nc, nI S, hk, hv, ca, pk, st, ev, cu, ec, va, vc, dp, rc, nk, nl, n2, k1, k2, k3, nf, sk, en, fk, fn, fl, fm, iu, sl, sw, sm, rs) (nI k) := by
  have ej : nI S - 1 - nI k = nI j := by
    rw [hS, show (1 : Int32) = nI 1 from rfl, pk_sub (by omega), pk_sub (by omega)]
    exact congrArg nI (by omega)
  unfold wpX_freeAt
  dsimp only
  rw [ej, nI_clamp (n := j) (by omega), e, nI_clamp (n := i) (by omega)]
  exact ⟨vp_in_nI (by omega) (by omega), vp_in_nI (by omega) (by omega), h⟩
theorem xw_lam {post : Int32 → Prop} {S j k i : Nat} (hS : S = j + 1 + k) (h32 : S ≤ 32) (e : sk j = nI i) (hi : i < 32) (h1 : nk i = 2 → post 1) (h0 : ¬ nk i = 2 → post 0) : wpX_isLamAt post (fu, ll, dl, nc, nI S, hk, hv, ca, pk, st, ev, cu, ec, va, vc, dp, rc, nk, nl, n2, k1, k2, k3, nf, sk, en, fk, fn, fl, fm, iu, sl, sw, sm, rs) (nI k) := by
  have ej : nI S - 1 - nI k = nI j := by
    rw [hS, show (1 : Int32) = nI 1 from rfl, pk_sub (by omega), pk_sub (by omega)]
    exact congrArg nI (by omega)
  unfold wpX_isLamAt
  dsimp only
  rw [ej, nI_clamp (n := j) (by omega), e, nI_clamp (n := i) (by omega)]
  exact ⟨vp_in_nI (by omega) (by omega), vp_in_nI (by omega) (by omega), h1, h0⟩
end
section
variable {fu ll dl nc bs hK hV ca pk ct wt lc sp ye yc rK rV : Int32} {Nk Na N2 C1 C2 C3 Nf bk cl ck cv mk wk rm gk gn ge gv gp gq yk yv : Nat → Int32}
variable {N B : Nat} {q0 q1 q2 q3 q4 q5 q6 : Int32}
theorem yw_node {post : Int32 → SY → Prop} (hN : N < 32) (hB : B < 32) (h : post (nI N) (fu, ll, dl, nI (N + 1), nI (B + 1), hK, hV, ca, pk, ct, wt, lc, sp, ye, yc, rK, rV, upd Nk N q0, upd Na N q1, upd N2 N q2, upd C1 N q3, upd C2 N q4, upd C3 N q5, upd Nf N q6, upd bk B (nI N), cl, ck, cv, mk, wk, rm, gk, gn, ge, gv, gp, gq, yk, yv, 32768, 32768)) : wpY_addNode post (fu, ll, dl, nI N, nI B, hK, hV, ca, pk, ct, wt, lc, sp, ye, yc, rK, rV, Nk, Na, N2, C1, C2, C3, Nf, bk, cl, ck, cv, mk, wk, rm, gk, gn, ge, gv, gp, gq, yk, yv, 32768, 32768) q0 q1 q2 q3 q4 q5 q6 := by
  unfold wpY_addNode
  exact ⟨vp_in_nI (by omega) (by omega), nm_r (e' := upd Nk N q0) (by rw [nI_clamp (n := N) (by omega)]) ⟨vp_in_nI (by omega) (by omega), nm_r (e' := upd Na N q1) (by rw [nI_clamp (n := N) (by omega)]) ⟨vp_in_nI (by omega) (by omega), nm_r (e' := upd N2 N q2) (by rw [nI_clamp (n := N) (by omega)]) ⟨vp_in_nI (by omega) (by omega), nm_r (e' := upd C1 N q3) (by rw [nI_clamp (n := N) (by omega)]) ⟨vp_in_nI (by omega) (by omega), nm_r (e' := upd C2 N q4) (by rw [nI_clamp (n := N) (by omega)]) ⟨vp_in_nI (by omega) (by omega), nm_r (e' := upd C3 N q5) (by rw [nI_clamp (n := N) (by omega)]) ⟨vp_in_nI (by omega) (by omega), nm_r (e' := upd Nf N q6) (by rw [nI_clamp (n := N) (by omega)]) (nm_r (nI_1 N) (br_f (nI_ge (a := B) (b := 32) hB (by omega)) ⟨vp_in_nI (by omega) (by omega), nm_r (e' := upd bk B (nI N)) (by rw [nI_clamp (n := B) (by omega)]) (nm_r (nI_1 B) h)⟩))⟩⟩⟩⟩⟩⟩⟩
end
