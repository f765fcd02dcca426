/-! ===== the component's walks: rows, slots ===== -/
/-- a with f's first i values from b on -/
def sc_wr (a : Nat → Int32) (b : Nat) (f : Nat → Int32) (i : Nat) : Nat → Int32 := fun j => if b ≤ j ∧ j < b + i then f (j - b) else a j
theorem sc_wr0 {a : Nat → Int32} {b : Nat} {f : Nat → Int32} : sc_wr a b f 0 = a := by
  funext j
  unfold sc_wr
  rw [if_neg (by omega)]
theorem sc_wr_u {a : Nat → Int32} {b : Nat} {f : Nat → Int32} {i k : Nat} {v : Int32} (hk : k = b + i) (hv : v = f i) : upd (sc_wr a b f i) k v = sc_wr a b f (i + 1) := by
  subst hk hv
  funext j
  unfold upd sc_wr
  by_cases e : j = b + i
  · subst e
    rw [if_pos rfl, if_pos (by omega)]
    exact congrArg f (by omega)
  · rw [if_neg e]
    by_cases h : b ≤ j ∧ j < b + i
    · rw [if_pos h, if_pos (by omega)]
    · rw [if_neg h, if_neg (by omega)]
theorem sc_wr_i {a : Nat → Int32} {b y n : Nat} {f : Nat → Int32} (h : y < n) : sc_wr a b f n (b + y) = f y := by
  unfold sc_wr
  rw [if_pos (by omega)]
  exact congrArg f (by omega)
theorem sc_wr_z {a : Nat → Int32} {y n : Nat} {f : Nat → Int32} (h : y < n) : sc_wr a 0 f n y = f y := by
  have := sc_wr_i (a := a) (b := 0) (f := f) h
  rw [Nat.zero_add] at this
  exact this
theorem sc_wr_o {a : Nat → Int32} {b j n : Nat} {f : Nat → Int32} (h : j < b ∨ b + n ≤ j) : sc_wr a b f n j = a j := by
  unfold sc_wr
  rw [if_neg (by omega)]
/-- another row of eight is not touched -/
theorem sc_wr_r {a : Nat → Int32} {s t y : Nat} {f : Nat → Int32} (h : s ≠ t) (hy : y < 8) : sc_wr a (t * 8) f 8 (s * 8 + y) = a (s * 8 + y) := sc_wr_o (by omega)
theorem sc_nb0 : vp_nar .boolean 0 = 0 := by decide +kernel
theorem sc_nb1 : vp_nar .boolean 1 = 1 := by decide +kernel
theorem sc_ad {a b : Nat} (h : a + b < 2 ^ 31) : (nI a + nI b).toNatClampNeg = a + b := by rw [nI_add]; exact nI_clamp h
theorem sc_m8 (a : Nat) : nI a * 8 = nI (a * 8) := pk_mul a 8
/-- the mask after a binding -/
def sc_bm (m : Int32) (x : Nat) : Bool → Int32
  | true => m ||| ((1 : Int32) <<< (nI x &&& 31))
  | false => m &&& (((1 : Int32) <<< (nI x &&& 31)) ^^^ (-1))
theorem sc_bm_s {m : Int32} {x : Nat} {c : Bool} (hx : x < 8) : bt (sc_bm m x c) x = c := by
  cases c
  · rw [sc_bm, sc_bc hx (by omega)]; simp
  · rw [sc_bm, sc_bs hx (by omega)]; simp
theorem sc_bm_o {m : Int32} {x y : Nat} {c : Bool} (hx : x < 8) (hy : y < 8) (e : y ≠ x) : bt (sc_bm m x c) y = bt m y := by
  cases c
  · rw [sc_bm, sc_bc hx (by omega)]; simp [e]
  · rw [sc_bm, sc_bs hx (by omega)]; simp [e]
section
variable {fu ll dl nc ss hk hv ca pk st ev cu ec va vc dp rc : Int32} {nk nl n2 k1 k2 k3 nf sk en fk fn fl fm iu sl sw sm rs : Nat → Int32}
theorem xw_bind {post : SX → Prop} {x : Nat} (hx : x < 8) (b : Int32) (c : Bool) (h : post (fu, ll, dl, nc, ss, hk, hv, ca, pk, st, ev, cu, sc_bm ec x c, va, vc, dp, rc, nk, nl, n2, k1, k2, k3, nf, sk, upd en x b, fk, fn, fl, fm, iu, sl, sw, sm, rs)) : wpX_bind post (fu, ll, dl, nc, ss, hk, hv, ca, pk, st, ev, cu, ec, va, vc, dp, rc, nk, nl, n2, k1, k2, k3, nf, sk, en, fk, fn, fl, fm, iu, sl, sw, sm, rs) (nI x) b (sc_bi c) := by
  unfold wpX_bind
  refine nm_e ⟨vp_in_nI hx (by omega), nm_r (e' := upd en x b) (by rw [nI_clamp (by omega)]) ?_⟩
  cases c
  · exact br_t rfl (nm_e h)
  · exact br_f (by decide) (nm_e h)
theorem xw_saveF_l {post : SX → Prop} {b : Nat} (hb : b + 8 ≤ 256) (h : post (fu, ll, dl, nc, ss, hk, hv, ca, pk, st, ev, cu, ec, va, vc, dp, rc, nk, nl, n2, k1, k2, k3, nf, sk, en, fk, fn, sc_wr fl b en 8, fm, iu, sl, sw, sm, rs)) : ∀ d i, i + d = 8 → wX_saveEnv__frameValues_2 post (nI b) fu ll dl nc ss hk hv ca pk st ev cu ec va vc dp rc (d + 1) (nI i) nk nl n2 k1 k2 k3 nf sk en fk fn (sc_wr fl b en i) fm iu sl sw sm rs := by
  intro d
  induction d with
  | zero =>
    intro i hi
    have : i = 8 := by omega
    subst this
    exact br_t (nI_le (a := 8) (b := 8) (by omega) (by omega)) h
  | succ d ih =>
    intro i hi
    refine br_f (nI_ge (a := i) (b := 8) (by omega) (by omega)) ⟨vp_in_nI (by omega) (by omega), pk_in (b + i) 256 (by omega) (nI_add b i), ?_⟩
    refine nm_r (e' := sc_wr fl b en (i + 1)) (sc_wr_u (sc_ad (by omega)) (congrArg en (nI_clamp (by omega)))) ?_
    exact nm_r (nI_1 i) (ih (i + 1) (by omega))
theorem xw_saveF {post : SX → Prop} {b : Nat} (hb : b + 8 ≤ 256) (h : post (fu, ll, dl, nc, ss, hk, hv, ca, pk, st, ev, cu, ec, va, vc, dp, rc, nk, nl, n2, k1, k2, k3, nf, sk, en, fk, fn, sc_wr fl b en 8, fm, iu, sl, sw, sm, rs)) : wpX_saveEnv__frameValues post (fu, ll, dl, nc, ss, hk, hv, ca, pk, st, ev, cu, ec, va, vc, dp, rc, nk, nl, n2, k1, k2, k3, nf, sk, en, fk, fn, fl, fm, iu, sl, sw, sm, rs) (nI b) := by
  have := xw_saveF_l hb h 8 0 (by omega)
  rw [sc_wr0] at this
  exact ⟨9, this⟩
theorem xw_saveS_l {post : SX → Prop} {b : Nat} (hb : b + 8 ≤ 272) (h : post (fu, ll, dl, nc, ss, hk, hv, ca, pk, st, ev, cu, ec, va, vc, dp, rc, nk, nl, n2, k1, k2, k3, nf, sk, en, fk, fn, fl, fm, iu, sl, sc_wr sw b en 8, sm, rs)) : ∀ d i, i + d = 8 → wX_saveEnv__slotValues_2 post (nI b) fu ll dl nc ss hk hv ca pk st ev cu ec va vc dp rc (d + 1) (nI i) nk nl n2 k1 k2 k3 nf sk en fk fn fl fm iu sl (sc_wr sw b en i) sm rs := by
  intro d
  induction d with
  | zero =>
    intro i hi
    have : i = 8 := by omega
    subst this
    exact br_t (nI_le (a := 8) (b := 8) (by omega) (by omega)) h
  | succ d ih =>
    intro i hi
    refine br_f (nI_ge (a := i) (b := 8) (by omega) (by omega)) ⟨vp_in_nI (by omega) (by omega), pk_in (b + i) 272 (by omega) (nI_add b i), ?_⟩
    refine nm_r (e' := sc_wr sw b en (i + 1)) (sc_wr_u (sc_ad (by omega)) (congrArg en (nI_clamp (by omega)))) ?_
    exact nm_r (nI_1 i) (ih (i + 1) (by omega))
theorem xw_saveS {post : SX → Prop} {b : Nat} (hb : b + 8 ≤ 272) (h : post (fu, ll, dl, nc, ss, hk, hv, ca, pk, st, ev, cu, ec, va, vc, dp, rc, nk, nl, n2, k1, k2, k3, nf, sk, en, fk, fn, fl, fm, iu, sl, sc_wr sw b en 8, sm, rs)) : wpX_saveEnv__slotValues post (fu, ll, dl, nc, ss, hk, hv, ca, pk, st, ev, cu, ec, va, vc, dp, rc, nk, nl, n2, k1, k2, k3, nf, sk, en, fk, fn, fl, fm, iu, sl, sw, sm, rs) (nI b) := by
  have := xw_saveS_l hb h 8 0 (by omega)
  rw [sc_wr0] at this
  exact ⟨9, this⟩
theorem xw_loadF_l {post : SX → Prop} {b : Nat} {m : Int32} (hb : b + 8 ≤ 256) (h : post (fu, ll, dl, nc, ss, hk, hv, ca, pk, st, ev, cu, m, va, vc, dp, rc, nk, nl, n2, k1, k2, k3, nf, sk, sc_wr en 0 (fun y => fl (b + y)) 8, fk, fn, fl, fm, iu, sl, sw, sm, rs)) : ∀ d i, i + d = 8 → wX_loadEnv__frameValues_3 post (nI b) m fu ll dl nc ss hk hv ca pk st ev cu ec va vc dp rc (d + 1) (nI i) nk nl n2 k1 k2 k3 nf sk (sc_wr en 0 (fun y => fl (b + y)) i) fk fn fl fm iu sl sw sm rs := by
  intro d
  induction d with
  | zero =>
    intro i hi
    have : i = 8 := by omega
    subst this
    exact br_t (nI_le (a := 8) (b := 8) (by omega) (by omega)) h
  | succ d ih =>
    intro i hi
    refine br_f (nI_ge (a := i) (b := 8) (by omega) (by omega)) ⟨pk_in (b + i) 256 (by omega) (nI_add b i), vp_in_nI (by omega) (by omega), ?_⟩
    refine nm_r (e' := sc_wr en 0 (fun y => fl (b + y)) (i + 1)) (sc_wr_u (by rw [nI_clamp (by omega)]; omega) (congrArg fl (sc_ad (by omega)))) ?_
    exact nm_r (nI_1 i) (ih (i + 1) (by omega))
theorem xw_loadF {post : SX → Prop} {b : Nat} {m : Int32} (hb : b + 8 ≤ 256) (h : post (fu, ll, dl, nc, ss, hk, hv, ca, pk, st, ev, cu, m, va, vc, dp, rc, nk, nl, n2, k1, k2, k3, nf, sk, sc_wr en 0 (fun y => fl (b + y)) 8, fk, fn, fl, fm, iu, sl, sw, sm, rs)) : wpX_loadEnv__frameValues post (fu, ll, dl, nc, ss, hk, hv, ca, pk, st, ev, cu, ec, va, vc, dp, rc, nk, nl, n2, k1, k2, k3, nf, sk, en, fk, fn, fl, fm, iu, sl, sw, sm, rs) (nI b) m := by
  have := xw_loadF_l (ec := ec) hb h 8 0 (by omega)
  rw [sc_wr0] at this
  exact ⟨9, this⟩
theorem xw_loadS_l {post : SX → Prop} {b : Nat} {m : Int32} (hb : b + 8 ≤ 272) (h : post (fu, ll, dl, nc, ss, hk, hv, ca, pk, st, ev, cu, m, va, vc, dp, rc, nk, nl, n2, k1, k2, k3, nf, sk, sc_wr en 0 (fun y => sw (b + y)) 8, fk, fn, fl, fm, iu, sl, sw, sm, rs)) : ∀ d i, i + d = 8 → wX_loadEnv__slotValues_3 post (nI b) m fu ll dl nc ss hk hv ca pk st ev cu ec va vc dp rc (d + 1) (nI i) nk nl n2 k1 k2 k3 nf sk (sc_wr en 0 (fun y => sw (b + y)) i) fk fn fl fm iu sl sw sm rs := by
  intro d
  induction d with
  | zero =>
    intro i hi
    have : i = 8 := by omega
    subst this
    exact br_t (nI_le (a := 8) (b := 8) (by omega) (by omega)) h
  | succ d ih =>
    intro i hi
    refine br_f (nI_ge (a := i) (b := 8) (by omega) (by omega)) ⟨pk_in (b + i) 272 (by omega) (nI_add b i), vp_in_nI (by omega) (by omega), ?_⟩
    refine nm_r (e' := sc_wr en 0 (fun y => sw (b + y)) (i + 1)) (sc_wr_u (by rw [nI_clamp (by omega)]; omega) (congrArg sw (sc_ad (by omega)))) ?_
    exact nm_r (nI_1 i) (ih (i + 1) (by omega))
theorem xw_loadS {post : SX → Prop} {b : Nat} {m : Int32} (hb : b + 8 ≤ 272) (h : post (fu, ll, dl, nc, ss, hk, hv, ca, pk, st, ev, cu, m, va, vc, dp, rc, nk, nl, n2, k1, k2, k3, nf, sk, sc_wr en 0 (fun y => sw (b + y)) 8, fk, fn, fl, fm, iu, sl, sw, sm, rs)) : wpX_loadEnv__slotValues post (fu, ll, dl, nc, ss, hk, hv, ca, pk, st, ev, cu, ec, va, vc, dp, rc, nk, nl, n2, k1, k2, k3, nf, sk, en, fk, fn, fl, fm, iu, sl, sw, sm, rs) (nI b) m := by
  have := xw_loadS_l (ec := ec) hb h 8 0 (by omega)
  rw [sc_wr0] at this
  exact ⟨9, this⟩
theorem xw_free_l {post : SX → Prop} (h : post (fu, ll, dl, nc, ss, hk, hv, ca, pk, st, ev, cu, ec, va, vc, dp, rc, nk, nl, n2, k1, k2, k3, nf, sk, en, fk, fn, fl, fm, sc_wr iu 0 (fun _ => 0) 34, sl, sw, sm, rs)) : ∀ d i, i + d = 34 → wX_freeAllSlots_2 post fu ll dl nc ss hk hv ca pk st ev cu ec va vc dp rc (d + 1) (nI i) nk nl n2 k1 k2 k3 nf sk en fk fn fl fm (sc_wr iu 0 (fun _ => 0) i) sl sw sm rs := by
  intro d
  induction d with
  | zero =>
    intro i hi
    have : i = 34 := by omega
    subst this
    exact br_t (nI_le (a := 34) (b := 34) (by omega) (by omega)) h
  | succ d ih =>
    intro i hi
    refine br_f (nI_ge (a := i) (b := 34) (by omega) (by omega)) ⟨vp_in_nI (by omega) (by omega), ?_⟩
    refine nm_r (e' := sc_wr iu 0 (fun _ => 0) (i + 1)) (sc_wr_u (by rw [nI_clamp (by omega)]; omega) sc_nb0) ?_
    exact nm_r (nI_1 i) (ih (i + 1) (by omega))
theorem xw_free {post : SX → Prop} (h : post (fu, ll, dl, nc, ss, hk, hv, ca, pk, st, ev, cu, ec, va, vc, dp, rc, nk, nl, n2, k1, k2, k3, nf, sk, en, fk, fn, fl, fm, sc_wr iu 0 (fun _ => 0) 34, sl, sw, sm, rs)) : wpX_freeAllSlots post (fu, ll, dl, nc, ss, hk, hv, ca, pk, st, ev, cu, ec, va, vc, dp, rc, nk, nl, n2, k1, k2, k3, nf, sk, en, fk, fn, fl, fm, iu, sl, sw, sm, rs) := by
  have := xw_free_l h 34 0 (by omega)
  rw [sc_wr0] at this
  exact ⟨35, this⟩
theorem xw_take_l {s : Nat} (hs : s < 34) (hf : iu s = 0) {post : Int32 → SX → Prop} (h : post (nI s) (fu, ll, dl, nc, ss, hk, hv, ca, pk, st, ev, cu, ec, va, vc, dp, rc, nk, nl, n2, k1, k2, k3, nf, sk, en, fk, fn, fl, fm, upd iu s 1, sl, sw, sm, rs)) : ∀ d i, i + d = s → (∀ j, j < s → ¬ iu j = 0) → wX_takeSlot_2 post fu ll dl nc ss hk hv ca pk st ev cu ec va vc dp rc nk nl n2 k1 k2 k3 nf sk en fk fn fl fm iu sl sw sm rs (d + 1) (nI i) := by
  intro d
  induction d with
  | zero =>
    intro i hi hb
    have : i = s := by omega
    subst this
    refine pk_le 33 i (fun _ => ⟨vp_in_nI hs (by omega), nm_r (e' := upd iu i 1) (by rw [nI_clamp (by omega), sc_nb1]) h⟩) (fun _ => ⟨vp_in_nI hs (by omega), br_t (by rw [nI_clamp (by omega)]; exact hf) ⟨vp_in_nI hs (by omega), nm_r (e' := upd iu i 1) (by rw [nI_clamp (by omega), sc_nb1]) h⟩⟩)
  | succ d ih =>
    intro i hi hb
    refine br_f (nI_ge (a := i) (b := 33) (by omega) (by omega)) ⟨vp_in_nI (by omega) (by omega), br_f (by rw [nI_clamp (by omega)]; exact hb i (by omega)) (nm_r (nI_1 i) (ih (i + 1) (by omega) hb))⟩
/-- the slot that is taken: the first free one -/
theorem xw_take (hf : ∃ s, s < 34 ∧ iu s = 0) : ∃ s, s < 34 ∧ iu s = 0 ∧ ∀ post : Int32 → SX → Prop, post (nI s) (fu, ll, dl, nc, ss, hk, hv, ca, pk, st, ev, cu, ec, va, vc, dp, rc, nk, nl, n2, k1, k2, k3, nf, sk, en, fk, fn, fl, fm, upd iu s 1, sl, sw, sm, rs) → wpX_takeSlot post (fu, ll, dl, nc, ss, hk, hv, ca, pk, st, ev, cu, ec, va, vc, dp, rc, nk, nl, n2, k1, k2, k3, nf, sk, en, fk, fn, fl, fm, iu, sl, sw, sm, rs) := by
  obtain ⟨s, hs, hl⟩ := pk_least (fun s => s < 34 ∧ iu s = 0) hf
  refine ⟨s, hs.1, hs.2, fun post h => ⟨s + 1, ?_⟩⟩
  exact xw_take_l hs.1 hs.2 h s 0 (by omega) (fun j hj hz => hl j hj ⟨by omega, hz⟩)
theorem xw_make {post : SX → Prop} {s l : Nat} (hs : s < 34) (hl : l < 32) (h : post (fu, ll, dl, nc, ss, hk, hv, ca, pk, st, ev, cu, ec, va, vc, dp, rc, nk, nl, n2, k1, k2, k3, nf, sk, en, fk, fn, fl, fm, iu, upd sl s (nI l), sc_wr sw (s * 8) en 8, upd sm s (ec &&& nf l), rs)) : wpX_makeClosure post (fu, ll, dl, nc, ss, hk, hv, ca, pk, st, ev, cu, ec, va, vc, dp, rc, nk, nl, n2, k1, k2, k3, nf, sk, en, fk, fn, fl, fm, iu, sl, sw, sm, rs) (nI s) (nI l) := by
  unfold wpX_makeClosure
  refine ⟨vp_in_nI hs (by omega), nm_r (e' := upd sl s (nI l)) (by rw [nI_clamp (by omega)]) ?_⟩
  rw [sc_m8]
  refine xw_saveS (by omega) ?_
  exact ⟨vp_in_nI hl (by omega), vp_in_nI hs (by omega), nm_r (e' := upd sm s (ec &&& nf l)) (by rw [nI_clamp (by omega), nI_clamp (by omega)]) h⟩
end
