/-! ===== the reference's walks: rows ===== -/
theorem sc_a8 (i j : Nat) : nI i * 8 + nI j = nI (i * 8 + j) := by rw [sc_m8, nI_add]
theorem sc_c8 {i j : Nat} (h : i * 8 + j < 2 ^ 31) : (nI i * 8 + nI j).toNatClampNeg = i * 8 + j := by rw [sc_a8]; exact nI_clamp h
section
variable {fu ll dl nc bs hK hV ca pk ct wt lc sp ye yc rK rV : Int32} {Nk Na N2 C1 C2 C3 Nf bk cl ck cv mk wk rm gk gn ge gv gp gq yk yv : Nat → Int32}
theorem yw_load_l {post : SY → Prop} {b : Nat} (hb : b < 32) (h : post (fu, ll, dl, nc, bs, hK, hV, ca, pk, ct, wt, lc, sp, ye, yc, rK, rV, Nk, Na, N2, C1, C2, C3, Nf, bk, cl, ck, cv, mk, wk, rm, gk, gn, ge, gv, gp, gq, sc_wr yk 0 (fun y => ge (b * 8 + y)) 8, sc_wr yv 0 (fun y => gv (b * 8 + y)) 8, 32768, 32768)) : ∀ d i, i + d = 8 → wY_loadEnv_2 post (nI b) fu ll dl nc bs hK hV ca pk ct wt lc sp ye yc rK rV 32768 32768 (d + 1) (nI i) Nk Na N2 C1 C2 C3 Nf bk cl ck cv mk wk rm gk gn ge gv gp gq (sc_wr yk 0 (fun y => ge (b * 8 + y)) i) (sc_wr yv 0 (fun y => gv (b * 8 + y)) i) := by
  intro d
  induction d with
  | zero =>
    intro i hi
    have : i = 8 := by omega
    subst this
    exact br_t (nI_le (a := 8) (b := 8) (by omega) (by omega)) h
  | succ d ih =>
    intro i hi
    refine br_f (nI_ge (a := i) (b := 8) (by omega) (by omega)) ⟨pk_in (b * 8 + i) 256 (by omega) (sc_a8 b i), vp_in_nI (by omega) (by omega), ?_⟩
    refine nm_r (e' := sc_wr yk 0 (fun y => ge (b * 8 + y)) (i + 1)) (sc_wr_u (by rw [nI_clamp (by omega)]; omega) (congrArg ge (sc_c8 (by omega)))) ⟨pk_in (b * 8 + i) 256 (by omega) (sc_a8 b i), vp_in_nI (by omega) (by omega), ?_⟩
    refine nm_r (e' := sc_wr yv 0 (fun y => gv (b * 8 + y)) (i + 1)) (sc_wr_u (by rw [nI_clamp (by omega)]; omega) (congrArg gv (sc_c8 (by omega)))) ?_
    exact nm_r (nI_1 i) (ih (i + 1) (by omega))
theorem yw_load {post : SY → Prop} {b : Nat} (hb : b < 32) (h : post (fu, ll, dl, nc, bs, hK, hV, ca, pk, ct, wt, lc, sp, ye, yc, rK, rV, Nk, Na, N2, C1, C2, C3, Nf, bk, cl, ck, cv, mk, wk, rm, gk, gn, ge, gv, gp, gq, sc_wr yk 0 (fun y => ge (b * 8 + y)) 8, sc_wr yv 0 (fun y => gv (b * 8 + y)) 8, 32768, 32768)) : wpY_loadEnv post (fu, ll, dl, nc, bs, hK, hV, ca, pk, ct, wt, lc, sp, ye, yc, rK, rV, Nk, Na, N2, C1, C2, C3, Nf, bk, cl, ck, cv, mk, wk, rm, gk, gn, ge, gv, gp, gq, yk, yv, 32768, 32768) (nI b) := by
  have := yw_load_l hb h 8 0 (by omega)
  rw [sc_wr0, sc_wr0] at this
  exact ⟨9, this⟩
theorem yw_call_l {post : Int32 → SY → Prop} {b l x : Nat} {p v : Int32} (hb : b < 4096) (hl : l < 32) (hx : x < 8) (ex : Na l = nI x) (h : post (-2) (fu, ll, dl, nc, bs, hK, hV, ca, pk, ct, wt, lc, sp, 1, C1 l, rK, rV, Nk, Na, N2, C1, C2, C3, Nf, bk, cl, ck, cv, mk, wk, rm, gk, gn, ge, gv, gp, gq, upd (sc_wr yk 0 (fun y => ck (b * 8 + y)) 8) x p, upd (sc_wr yv 0 (fun y => cv (b * 8 + y)) 8) x v, 32768, 32768)) : ∀ d i, i + d = 8 → wY_callStep_47 post (nI b) p v (nI l) fu ll dl nc bs hK hV ca pk ct wt lc sp ye yc rK rV 32768 32768 (d + 1) (nI i) Nk Na N2 C1 C2 C3 Nf bk cl ck cv mk wk rm gk gn ge gv gp gq (sc_wr yk 0 (fun y => ck (b * 8 + y)) i) (sc_wr yv 0 (fun y => cv (b * 8 + y)) i) := by
  have el : (nI l).toNatClampNeg = l := nI_clamp (by omega)
  have ec : (Na l).toNatClampNeg = x := by rw [ex]; exact nI_clamp (by omega)
  have ei : vp_in (Na l) 8 := by rw [ex]; exact vp_in_nI hx (by omega)
  intro d
  induction d with
  | zero =>
    intro i hi
    have : i = 8 := by omega
    subst this
    refine br_t (nI_le (a := 8) (b := 8) (by omega) (by omega)) ⟨vp_in_nI hl (by omega), by rw [el]; exact ei, ?_⟩
    refine nm_r (e' := upd (sc_wr yk 0 (fun y => ck (b * 8 + y)) 8) x p) (by rw [el, ec]) ⟨vp_in_nI hl (by omega), by rw [el]; exact ei, ?_⟩
    refine nm_r (e' := upd (sc_wr yv 0 (fun y => cv (b * 8 + y)) 8) x v) (by rw [el, ec]) ⟨vp_in_nI hl (by omega), ?_⟩
    exact nm_r (e' := C1 l) (by rw [el]) h
  | succ d ih =>
    intro i hi
    refine br_f (nI_ge (a := i) (b := 8) (by omega) (by omega)) ⟨pk_in (b * 8 + i) 32768 (by omega) (sc_a8 b i), vp_in_nI (by omega) (by omega), ?_⟩
    refine nm_r (e' := sc_wr yk 0 (fun y => ck (b * 8 + y)) (i + 1)) (sc_wr_u (by rw [nI_clamp (by omega)]; omega) (congrArg ck (sc_c8 (by omega)))) ⟨pk_in (b * 8 + i) 32768 (by omega) (sc_a8 b i), vp_in_nI (by omega) (by omega), ?_⟩
    refine nm_r (e' := sc_wr yv 0 (fun y => cv (b * 8 + y)) (i + 1)) (sc_wr_u (by rw [nI_clamp (by omega)]; omega) (congrArg cv (sc_c8 (by omega)))) ?_
    exact nm_r (nI_1 i) (ih (i + 1) (by omega))
/-- the reference's call: with fuel left -/
theorem yw_call {post : Int32 → SY → Prop} {b l x A F : Nat} {p v : Int32} (hb : b < 4096) (hl : l < 32) (hx : x < 8) (el : cl b = nI l) (ex : Na l = nI x) (hA : A < F) (hF : F < 2 ^ 31) (h : post (-2) (nI F, ll, dl, nc, bs, hK, hV, nI (A + 1), pk, ct, wt, lc, sp, 1, C1 l, rK, rV, Nk, Na, N2, C1, C2, C3, Nf, bk, cl, ck, cv, mk, wk, rm, gk, gn, ge, gv, gp, gq, upd (sc_wr yk 0 (fun y => ck (b * 8 + y)) 8) x p, upd (sc_wr yv 0 (fun y => cv (b * 8 + y)) 8) x v, 32768, 32768)) : wpY_callStep post (nI F, ll, dl, nc, bs, hK, hV, nI A, pk, ct, wt, lc, sp, ye, yc, rK, rV, Nk, Na, N2, C1, C2, C3, Nf, bk, cl, ck, cv, mk, wk, rm, gk, gn, ge, gv, gp, gq, yk, yv, 32768, 32768) (nI b) p v := by
  have := yw_call_l (ye := ye) (yc := yc) hb hl hx ex h 8 0 (by omega)
  rw [sc_wr0, sc_wr0] at this
  unfold wpY_callStep
  refine br_f (fun z => absurd (sc_nIi z (by omega) hF) (by omega)) (br_f (nI_pos (by omega)) (br_t (nI_lt (a := b) (b := 4096) hb (by omega)) (nm_r (nI_1 A) ⟨vp_in_nI hb (by omega), nm_r (e' := nI l) (by rw [nI_clamp (by omega)]; exact el) ⟨9, this⟩⟩)))
theorem yw_push_l {post : Int32 → SY → Prop} {n d0 : Nat} (hn : n < 32) (hd : d0 < 32) (h : post (-2) (fu, ll, dl, nc, bs, hK, hV, ca, pk, ct, wt, lc, nI (d0 + 1), ye, C1 n, rK, rV, Nk, Na, N2, C1, C2, C3, Nf, bk, cl, ck, cv, mk, wk, rm, gk, gn, sc_wr ge (d0 * 8) yk 8, sc_wr gv (d0 * 8) yv 8, gp, gq, yk, yv, 32768, 32768)) : ∀ d i, i + d = 8 → wY_evalStep_369 post (nI n) fu ll dl nc bs hK hV ca pk ct wt lc (nI d0) ye yc rK rV 32768 32768 (d + 1) (nI i) Nk Na N2 C1 C2 C3 Nf bk cl ck cv mk wk rm gk gn (sc_wr ge (d0 * 8) yk i) (sc_wr gv (d0 * 8) yv i) gp gq yk yv := by
  intro d
  induction d with
  | zero =>
    intro i hi
    have : i = 8 := by omega
    subst this
    exact br_t (nI_le (a := 8) (b := 8) (by omega) (by omega)) (nm_r (nI_1 d0) ⟨vp_in_nI hn (by omega), nm_r (e' := C1 n) (by rw [nI_clamp (by omega)]) h⟩)
  | succ d ih =>
    intro i hi
    refine br_f (nI_ge (a := i) (b := 8) (by omega) (by omega)) ⟨vp_in_nI (by omega) (by omega), pk_in (d0 * 8 + i) 256 (by omega) (sc_a8 d0 i), ?_⟩
    refine nm_r (e' := sc_wr ge (d0 * 8) yk (i + 1)) (sc_wr_u (sc_c8 (by omega)) (congrArg yk (nI_clamp (by omega)))) ⟨vp_in_nI (by omega) (by omega), pk_in (d0 * 8 + i) 256 (by omega) (sc_a8 d0 i), ?_⟩
    refine nm_r (e' := sc_wr gv (d0 * 8) yv (i + 1)) (sc_wr_u (sc_c8 (by omega)) (congrArg yv (nI_clamp (by omega)))) ?_
    exact nm_r (nI_1 i) (ih (i + 1) (by omega))
/-- the reference's push of a frame -/
theorem yw_push {post : Int32 → SY → Prop} {n d0 D : Nat} {f : Int32} (hn : n < 32) (hd : d0 < D) (hD : D ≤ 32) (h : post (-2) (fu, ll, nI D, nc, bs, hK, hV, ca, pk, ct, wt, lc, nI (d0 + 1), ye, C1 n, rK, rV, Nk, Na, N2, C1, C2, C3, Nf, bk, cl, ck, cv, mk, wk, rm, upd gk d0 f, upd gn d0 (nI n), sc_wr ge (d0 * 8) yk 8, sc_wr gv (d0 * 8) yv 8, gp, gq, yk, yv, 32768, 32768)) : wY_evalStep_333 post (nI n) f fu ll (nI D) nc bs hK hV ca pk ct wt lc (nI d0) ye yc rK rV Nk Na N2 C1 C2 C3 Nf bk cl ck cv mk wk rm gk gn ge gv gp gq yk yv 32768 32768 := by
  have := yw_push_l (yc := yc) hn (by omega) h 8 0 (by omega)
  rw [sc_wr0, sc_wr0] at this
  unfold wY_evalStep_333
  exact br_t (nI_lt hd (by omega)) ⟨vp_in_nI (by omega) (by omega), nm_r (e' := upd gk d0 f) (by rw [nI_clamp (by omega)]) ⟨vp_in_nI (by omega) (by omega), nm_r (e' := upd gn d0 (nI n)) (by rw [nI_clamp (by omega)]) ⟨9, this⟩⟩⟩
theorem yw_fill_l {post : SY → Prop} {b : Nat} {m : Int32} (hb : b < 4096) (h : post (fu, ll, dl, nc, bs, hK, hV, ca, pk, ct, wt, lc, sp, ye, yc, rK, rV, Nk, Na, N2, C1, C2, C3, Nf, bk, cl, sc_wr ck (b * 8) (fun y => if bt m y = true then yk y else 0) 8, sc_wr cv (b * 8) (fun y => if bt m y = true then yv y else 0) 8, mk, wk, rm, gk, gn, ge, gv, gp, gq, yk, yv, 32768, 32768)) : ∀ d i, i + d = 8 → wY_fillEnv_2 post (nI b) m fu ll dl nc bs hK hV ca pk ct wt lc sp ye yc rK rV 32768 32768 (d + 1) (nI i) Nk Na N2 C1 C2 C3 Nf bk cl (sc_wr ck (b * 8) (fun y => if bt m y = true then yk y else 0) i) (sc_wr cv (b * 8) (fun y => if bt m y = true then yv y else 0) i) mk wk rm gk gn ge gv gp gq yk yv := by
  intro d
  induction d with
  | zero =>
    intro i hi
    have : i = 8 := by omega
    subst this
    exact br_t (nI_le (a := 8) (b := 8) (by omega) (by omega)) h
  | succ d ih =>
    intro i hi
    have ih' := ih (i + 1) (by omega)
    refine br_f (nI_ge (a := i) (b := 8) (by omega) (by omega)) ?_
    cases hm : bt m i with
    | false =>
      refine br_t ((sc_bit m (by omega)).mpr hm) (br_t rfl ⟨pk_in (b * 8 + i) 32768 (by omega) (sc_a8 b i), ?_⟩)
      refine nm_r (e' := sc_wr ck (b * 8) (fun y => if bt m y = true then yk y else 0) (i + 1)) (sc_wr_u (sc_c8 (by omega)) (by simp [hm])) (br_t rfl ⟨pk_in (b * 8 + i) 32768 (by omega) (sc_a8 b i), ?_⟩)
      refine nm_r (e' := sc_wr cv (b * 8) (fun y => if bt m y = true then yv y else 0) (i + 1)) (sc_wr_u (sc_c8 (by omega)) (by simp [hm])) ?_
      exact nm_r (nI_1 i) ih'
    | true =>
      refine br_f (fun z => by rw [(sc_bit m (by omega)).mp z] at hm; cases hm) (br_f (by decide) ⟨vp_in_nI (by omega) (by omega), pk_in (b * 8 + i) 32768 (by omega) (sc_a8 b i), ?_⟩)
      refine nm_r (e' := sc_wr ck (b * 8) (fun y => if bt m y = true then yk y else 0) (i + 1)) (sc_wr_u (sc_c8 (by omega)) (by rw [nI_clamp (by omega)]; simp [hm])) (br_f (by decide) ⟨vp_in_nI (by omega) (by omega), pk_in (b * 8 + i) 32768 (by omega) (sc_a8 b i), ?_⟩)
      refine nm_r (e' := sc_wr cv (b * 8) (fun y => if bt m y = true then yv y else 0) (i + 1)) (sc_wr_u (sc_c8 (by omega)) (by rw [nI_clamp (by omega)]; simp [hm])) ?_
      exact nm_r (nI_1 i) ih'
theorem yw_fill {post : SY → Prop} {b : Nat} {m : Int32} (hb : b < 4096) (h : post (fu, ll, dl, nc, bs, hK, hV, ca, pk, ct, wt, lc, sp, ye, yc, rK, rV, Nk, Na, N2, C1, C2, C3, Nf, bk, cl, sc_wr ck (b * 8) (fun y => if bt m y = true then yk y else 0) 8, sc_wr cv (b * 8) (fun y => if bt m y = true then yv y else 0) 8, mk, wk, rm, gk, gn, ge, gv, gp, gq, yk, yv, 32768, 32768)) : wpY_fillEnv post (fu, ll, dl, nc, bs, hK, hV, ca, pk, ct, wt, lc, sp, ye, yc, rK, rV, Nk, Na, N2, C1, C2, C3, Nf, bk, cl, ck, cv, mk, wk, rm, gk, gn, ge, gv, gp, gq, yk, yv, 32768, 32768) (nI b) m := by
  have := yw_fill_l hb h 8 0 (by omega)
  rw [sc_wr0, sc_wr0] at this
  exact ⟨9, this⟩
theorem yw_alloc {post : Int32 → SY → Prop} {T : Nat} {l : Int32} (hT : T < 4096) (h : post (nI T) (fu, ll, dl, nc, bs, hK, hV, ca, pk, nI (T + 1), wt, lc, sp, ye, yc, rK, rV, Nk, Na, N2, C1, C2, C3, Nf, bk, upd cl T l, ck, cv, mk, wk, rm, gk, gn, ge, gv, gp, gq, yk, yv, 32768, 32768)) : wpY_allocate post (fu, ll, dl, nc, bs, hK, hV, ca, pk, nI T, wt, lc, sp, ye, yc, rK, rV, Nk, Na, N2, C1, C2, C3, Nf, bk, cl, ck, cv, mk, wk, rm, gk, gn, ge, gv, gp, gq, yk, yv, 32768, 32768) l := by
  unfold wpY_allocate
  exact br_t (nI_lt (a := T) (b := 4096) hT (by omega)) (nm_r (nI_1 T) ⟨vp_in_nI hT (by omega), nm_r (e' := upd cl T l) (by rw [nI_clamp (by omega)]) h⟩)
theorem yw_begin_l {post : SY → Prop} {T : Nat} (hT : T ≤ 4096) (h : post (fu, ll, dl, nc, bs, hK, hV, ca, pk, nI T, 0, 0, sp, ye, yc, rK, rV, Nk, Na, N2, C1, C2, C3, Nf, bk, cl, ck, cv, sc_wr mk 0 (fun _ => 0) T, wk, rm, gk, gn, ge, gv, gp, gq, yk, yv, 32768, 32768)) : ∀ d i, i + d = T → wY_beginCheck_2 post fu ll dl nc bs hK hV ca pk (nI T) wt lc sp ye yc rK rV 32768 32768 (d + 1) (nI i) Nk Na N2 C1 C2 C3 Nf bk cl ck cv (sc_wr mk 0 (fun _ => 0) i) wk rm gk gn ge gv gp gq yk yv := by
  intro d
  induction d with
  | zero =>
    intro i hi
    have : i = T := by omega
    subst this
    exact br_t (nI_le (a := i) (b := i) (by omega) (by omega)) h
  | succ d ih =>
    intro i hi
    refine br_f (nI_ge (a := i) (b := T) (by omega) (by omega)) ⟨vp_in_nI (by omega) (by omega), ?_⟩
    refine nm_r (e' := sc_wr mk 0 (fun _ => 0) (i + 1)) (sc_wr_u (by rw [nI_clamp (by omega)]; omega) sc_nb0) ?_
    exact nm_r (nI_1 i) (ih (i + 1) (by omega))
theorem yw_begin {post : SY → Prop} {T : Nat} (hT : T ≤ 4096) (h : post (fu, ll, dl, nc, bs, hK, hV, ca, pk, nI T, 0, 0, sp, ye, yc, rK, rV, Nk, Na, N2, C1, C2, C3, Nf, bk, cl, ck, cv, sc_wr mk 0 (fun _ => 0) T, wk, rm, gk, gn, ge, gv, gp, gq, yk, yv, 32768, 32768)) : wpY_beginCheck post (fu, ll, dl, nc, bs, hK, hV, ca, pk, nI T, wt, lc, sp, ye, yc, rK, rV, Nk, Na, N2, C1, C2, C3, Nf, bk, cl, ck, cv, mk, wk, rm, gk, gn, ge, gv, gp, gq, yk, yv, 32768, 32768) := by
  have := yw_begin_l (wt := wt) (lc := lc) hT h T 0 (by omega)
  rw [sc_wr0] at this
  exact ⟨T + 1, this⟩
end
