/-! ===== compaction as a whole; run and callResult ===== -/
section
variable {fu ll dl nc bs hK hV ca pk ct wt lc sp ye yc rK rV : Int32} {Nk Na N2 C1 C2 C3 Nf bk cl ck cv mk wk rm gk gn ge gv gp gq yk yv : Nat → Int32}
variable {nk sl sw sm iu : Nat → Int32} {g : Nat → Nat} {U : Nat → Prop} {N T s0 : Nat}
theorem yw_compact (hT : T ≤ 4096) (hb : sc_HB g U iu T) (hn : ∀ s, U s → sc_HN g U N nk Nf sl sw sm cl ck cv s) (hI : sc_IU 32 iu) (hs : U s0) : ∃ (g' : Nat → Nat) (U' : Nat → Prop) (T' : Nat) (mk' wk' : Nat → Int32) (lc' wt' : Int32) (rm' cl' ck' cv' : Nat → Int32), T' ≤ 32 ∧ sc_HB g' U' iu T' ∧ (∀ s, U' s → sc_HN g' U' N nk Nf sl sw sm cl' ck' cv' s) ∧ U' s0 ∧ ∀ post : SY → Prop, post (fu, ll, dl, nc, bs, hK, nI (g' s0), ca, pk, nI T', wt', lc', sp, ye, yc, rK, rV, Nk, Na, N2, C1, C2, C3, Nf, bk, cl', ck', cv', mk', wk', rm', gk, gn, ge, gv, gp, gq, yk, yv, 32768, 32768) → wpY_compact post (fu, ll, dl, nc, bs, hK, nI (g s0), ca, pk, nI T, wt, lc, sp, ye, yc, rK, rV, Nk, Na, N2, C1, C2, C3, Nf, bk, cl, ck, cv, mk, wk, rm, gk, gn, ge, gv, gp, gq, yk, yv, 32768, 32768) := by
  have hU : ∀ s, U s → s < 34 ∧ g s < T := fun s h => ⟨(hb.1 s h).1, (hb.1 s h).2.2⟩
  have hVU : ∀ s, sc_rc (fun s => s = s0) (sc_EX sw sm) s → U s := sc_iso1 (fun s e => e ▸ hs) (fun s t h e => sc_HN_k (hn s h) (fun s h => (hU s h).1) e)
  have hg0 := (hU s0 hs).2
  obtain ⟨mk1, wk1, lc1, wt1, c1, p1, q1, w1, b1, b2, b3, b4, K1⟩ := yw_mark (fu := fu) (ll := ll) (dl := dl) (nc := nc) (bs := bs) (hK := hK) (hV := nI (g s0)) (ca := ca) (pk := pk) (ct := nI T) (sp := sp) (ye := ye) (yc := yc) (rK := rK) (rV := rV) (Nk := Nk) (Na := Na) (N2 := N2) (C1 := C1) (C2 := C2) (C3 := C3) (Nf := Nf) (bk := bk) (cl := cl) (ck := ck) (cv := cv) (rm := rm) (gk := gk) (gn := gn) (ge := ge) (gv := gv) (gp := gp) (gq := gq) (yk := yk) (yv := yv) (k := 2) (v := nI (g s0)) (sc_YS0 (T := T) (mk := mk) (wk := wk) (q := fun i => i) (w := fun i => i)) hT (fun _ => ⟨g s0, hg0, rfl⟩)
  have hp1 : p1 = c1 := by have := b2.2.2.1; omega
  subst hp1
  have hq1 : ∀ i, i < p1 → q1 i = g s0 := by
    intro i hi
    rcases b4 i hi with h | ⟨_, e⟩
    · exact absurd h (Nat.not_lt_zero i)
    · have := b1.2.2.2.1 i hi
      exact (sc_nIi e (by omega) (by omega)).symm
  obtain ⟨mk2, wk2, lc2, wt2, c2, q2, w2, d1, d2, d3, d4, K2⟩ := yw_drain (R := fun j => ∃ s, sc_rc (fun s => s = s0) (sc_EX sw sm) s ∧ j = g s) (fu := fu) (ll := ll) (dl := dl) (nc := nc) (bs := bs) (hK := hK) (hV := nI (g s0)) (ca := ca) (pk := pk) (ct := nI T) (sp := sp) (ye := ye) (yc := yc) (rK := rK) (rV := rV) (Nk := Nk) (Na := Na) (N2 := N2) (C1 := C1) (C2 := C2) (C3 := C3) (Nf := Nf) (bk := bk) (cl := cl) (ck := ck) (cv := cv) (rm := rm) (gk := gk) (gn := gn) (ge := ge) (gv := gv) (gp := gp) (gq := gq) (yk := yk) (yv := yv) hT (by
    intro j hj
    obtain ⟨s, h, rfl⟩ := hj
    exact (hU s (hVU s h)).2) (by
    intro j hj y hy e
    obtain ⟨s, h, rfl⟩ := hj
    obtain ⟨t, ht, ex, e2⟩ := sc_HN_y (hn s (hVU s h)) hU hy e
    exact ⟨g t, ⟨t, sc_rc_e h ex, rfl⟩, e2⟩) b1 (fun i hi => ⟨s0, sc_rc_r rfl, hq1 i hi⟩) (fun i hi => by
    rcases b2.2.2.2 i hi with h | h
    · exact absurd h (Nat.not_lt_zero i)
    · exact h)
  have hin : ∀ s, sc_rc (fun s => s = s0) (sc_EX sw sm) s → sc_in c2 q2 (g s) := by
    intro s h
    refine (h (fun s => sc_rc (fun s => s = s0) (sc_EX sw sm) s ∧ sc_in c2 q2 (g s)) ?_ ?_).2
    · intro a e
      subst e
      refine ⟨sc_rc_r rfl, ?_⟩
      obtain ⟨j, hj, e2, e3⟩ := b3 rfl
      have : g a = j := sc_nIi e2 (by omega) (by omega)
      rw [this]
      exact sc_ex_in d2 e3
    · intro a b ha e
      obtain ⟨y, hy, e1, e2⟩ := sc_HN_x (hn a (hVU a ha.1)) (fun s h => (hU s h).1) e
      exact ⟨sc_rc_e ha.1 e, d4 (g a) (g b) ha.2 ⟨(hU b (hVU b (sc_rc_e ha.1 e))).2, y, hy, e1, e2⟩⟩
  have hmk : ∀ s, sc_rc (fun s => s = s0) (sc_EX sw sm) s → ¬ mk2 (g s) = 0 := by
    intro s h
    rcases d1.2.2.2.2.2.1 (g s) (hU s (hVU s h)).2 with z | z
    · rw [z.1]; decide
    · exact absurd (hin s h) z.2
  have hkm : ∀ k, k < T → ¬ mk2 k = 0 → ∃ s, sc_rc (fun s => s = s0) (sc_EX sw sm) s ∧ k = g s := by
    intro k hk hm
    rcases d1.2.2.2.2.2.1 k hk with z | z
    · obtain ⟨i, hi, e⟩ := z.2
      rw [← e]
      exact d3 i hi
    · exact absurd z.1 hm
  obtain ⟨rm3, cl3, ck3, cv3, e3, K3⟩ := yw_mv (fu := fu) (ll := ll) (dl := dl) (nc := nc) (bs := bs) (hK := hK) (hV := nI (g s0)) (ca := ca) (pk := pk) (wt := wt2) (lc := lc2) (sp := sp) (ye := ye) (yc := yc) (rK := rK) (rV := rV) (Nk := Nk) (Na := Na) (N2 := N2) (C1 := C1) (C2 := C2) (C3 := C3) (Nf := Nf) (bk := bk) (cl := cl) (ck := ck) (cv := cv) (mk := mk2) (wk := wk2) (rm := rm) (gk := gk) (gn := gn) (ge := ge) (gv := gv) (gp := gp) (gq := gq) (yk := yk) (yv := yv) (T := T) hT
  have hJ := sc_ct_le mk2 T
  have h32 : sc_ct mk2 T ≤ 32 := by
    obtain ⟨i1, c, q, hc, i2⟩ := hI
    refine Nat.le_trans (sc_pig (T := fun r i => ∃ s, sc_rc (fun s => s = s0) (sc_EX sw sm) s ∧ sc_ct mk2 (g s) = r ∧ q i = s) ?_ ?_) hc
    · intro r hr
      obtain ⟨k, hk, hm, e⟩ := sc_ct_in hr
      obtain ⟨s, h1, h2⟩ := hkm k hk hm
      subst h2
      obtain ⟨i, hi, ei⟩ := i2 s (hU s (hVU s h1)).1 (hb.1 s (hVU s h1)).2.1
      exact ⟨i, hi, s, h1, e, ei⟩
    · intro r r' i _ _ h1 h2
      obtain ⟨s, _, a2, a3⟩ := h1
      obtain ⟨t, _, z2, z3⟩ := h2
      rw [← a2, ← z2, ← a3, ← z3]
  have hlt : ∀ s, sc_rc (fun s => s = s0) (sc_EX sw sm) s → sc_ct mk2 (g s) < sc_ct mk2 T := fun s h => sc_ct_l (hmk s h) (hU s (hVU s h)).2
  refine ⟨fun s => sc_ct mk2 (g s), sc_rc (fun s => s = s0) (sc_EX sw sm), sc_ct mk2 T, mk2, wk2, lc2, wt2, rm3, cl3, ck3, sc_wr cv3 0 (sc_tr rm3 ck3 cv3) (sc_ct mk2 T * 8), h32, ⟨fun s h => ⟨(hU s (hVU s h)).1, (hb.1 s (hVU s h)).2.1, hlt s h⟩, fun s t h h' e => hb.2 s t (hVU s h) (hVU t h') (sc_ct_i (hmk s h) (hmk t h') e)⟩, ?_, sc_rc_r rfl, fun post h => ?_⟩
  · intro s h
    obtain ⟨l, l1, l2, l3, l4, l5, l6, l7⟩ := hn s (hVU s h)
    obtain ⟨m1, m2, m3⟩ := e3 (g s) (hU s (hVU s h)).2 (hmk s h)
    have hls := hlt s h
    have rd : ∀ y, y < 8 → sc_wr cv3 0 (sc_tr rm3 ck3 cv3) (sc_ct mk2 T * 8) (sc_ct mk2 (g s) * 8 + y) = sc_tr rm3 ck3 cv3 (sc_ct mk2 (g s) * 8 + y) := fun y hy => sc_wr_z (by omega)
    refine ⟨l, l1, l2, l3, m2.trans l4, ?_, l6, fun y hy hbt => by rw [(m3 y hy).1]; exact l7 y hy hbt⟩
    intro y hy hbt
    dsimp only
    rw [rd y hy, (m3 y hy).1]
    rcases l5 y hy hbt with ⟨z1, z2, z3⟩ | ⟨z1, z2, t, ht, z3, z4⟩
    · refine Or.inl ⟨z1, z2, ?_⟩
      have z2' : ck (g s * 8 + y) = 1 := z2
      unfold sc_tr
      rw [if_neg (fun z => by rw [(m3 y hy).1, z2'] at z; exact absurd z.1 (by decide)), (m3 y hy).2]
      exact z3
    · have htV : sc_rc (fun s => s = s0) (sc_EX sw sm) t := sc_rc_e h ⟨(hU t ht).1, y, hy, z1, z3⟩
      have hgt := (hU t ht).2
      refine Or.inr ⟨z1, z2, t, htV, z3, ?_⟩
      unfold sc_tr
      rw [(m3 y hy).1, (m3 y hy).2]
      have z4' : cv (g s * 8 + y) = nI (g t) := z4
      rw [z4', if_pos ⟨z2, nI_pos (by omega), nI_ge (a := g t) (b := 4096) (by omega) (by omega)⟩, nI_clamp (by omega)]
      exact (e3 (g t) hgt (hmk t htV)).1
  · unfold wpY_compact
    refine yw_begin hT (K1 _ (K2 _ ⟨T + 1, K3 post (T + 1) (by omega) ⟨sc_ct mk2 T + 1, ?_⟩⟩))
    have K4 := yw_tr (post := post) (fu := fu) (ll := ll) (dl := dl) (nc := nc) (bs := bs) (hK := hK) (ca := ca) (pk := pk) (ct := nI T) (wt := wt2) (lc := lc2) (sp := sp) (ye := ye) (yc := yc) (rK := rK) (rV := rV) (Nk := Nk) (Na := Na) (N2 := N2) (C1 := C1) (C2 := C2) (C3 := C3) (Nf := Nf) (bk := bk) (cl := cl3) (ck := ck3) (cv := cv3) (mk := mk2) (wk := wk2) (rm := rm3) (gk := gk) (gn := gn) (ge := ge) (gv := gv) (gp := gp) (gq := gq) (yk := yk) (yv := yv) (J := sc_ct mk2 T) (h0 := g s0) (by omega) (by omega) (by rw [(e3 (g s0) hg0 (hmk s0 (sc_rc_r rfl))).1]; exact h) (sc_ct mk2 T) 0 (by omega)
    rw [Nat.zero_mul, sc_wr0] at K4
    exact K4
end
theorem sm_fin {M : Nat} {r : Int32} {u : SX} {v : SY} (h : sc_SR M r u v) (hM : M ≤ 90000) : ∃ r' u' v', sc_RL u' v' ∧ (∀ post : Int32 → SX → Prop, post r' u' → ∃ n, sc_lX post n 0 u) ∧ (∀ post : Int32 → SY → Prop, post r' v' → (r = -2 → ∃ n, sc_lY post n 0 v) ∧ (¬ r = -2 → post r v)) := by
  rcases h with ⟨hr, M', hlt, h1⟩ | ⟨h2, h0, h1⟩ | ⟨hr, h1⟩
  · obtain ⟨r', u', v', hR, LX, LY⟩ := sm_loop M' u v h1
    exact ⟨r', u', v', hR, fun post hp => ⟨M' + 3, LX post (M' + 3) 0 (by omega) (by omega) hp⟩, fun post hp => ⟨fun _ => ⟨M' + 3, LY post (M' + 3) 0 (by omega) (by omega) hp⟩, fun z => absurd hr z⟩⟩
  · obtain ⟨hR, LX⟩ := sm_err h1 h2 h0
    exact ⟨r, u, v, hR, fun post hp => ⟨1, LX post 0 0 (by omega) hp⟩, fun post hp => ⟨fun z => absurd z h2, fun _ => hp⟩⟩
  · obtain ⟨u', hR, LX⟩ := sm_ok h1
    subst hr
    exact ⟨0, u', v, hR, fun post hp => ⟨1, LX post 0 0 (by omega) hp⟩, fun post hp => ⟨fun z => absurd z (by decide), fun _ => hp⟩⟩
theorem i_vc_callResult {k : Nat} {u : SX} {v : SY} (I : i_Rel k u v) (hk : k + 3 ≤ 1539) (v1 : Int32) : wpX_callResult (fun r u' => wpY_callResult (fun r' v' => r' = r ∧ i_Rel (k + 3) u' v') v v1) u v1 := by
  have I0 := i_up I
  refine sc_RL_e I (fun hk hv st ev cu ec va vc dp rc hK hV ct wt lc yc rK rV nk nl n2 k1 k2 k3 nf sk en fk fn fl fm iu sl sw sm rs Nk N2 C1 C2 C3 cl ck cv mk wk rm gk gn ge gv gp gq yk yv sp ye F L D N S A P sz qu qv hB hD => ?_)
  clear I
  subst qu qv
  unfold wpX_callResult
  rcases hD with ⟨rfl, rfl, rfl, rfl⟩ | ⟨rfl, rfl, rfl⟩ | ⟨rfl, rfl, s, g, U, T, rfl, hT, hb, hn, hI, hs, rfl, rfl⟩
  · refine br_f (by decide) ?_
    unfold wpY_callResult
    exact br_f (by decide) ⟨rfl, I0⟩
  · refine br_f (by decide) ?_
    unfold wpY_callResult
    exact br_f (by decide) ⟨rfl, I0⟩
  · obtain ⟨g', U', T', mk', wk', lc', wt', rm', cl', ck', cv', t32, hb', hn', hs', KC⟩ := yw_compact (fu := nI F) (ll := nI L) (dl := nI D) (nc := nI N) (bs := nI S) (hK := 2) (ca := nI A) (pk := nI P) (wt := wt) (lc := lc) (sp := sp) (ye := ye) (yc := yc) (rK := rK) (rV := rV) (Nk := Nk) (Na := nl) (N2 := N2) (C1 := C1) (C2 := C2) (C3 := C3) (bk := sk) (mk := mk) (wk := wk) (rm := rm) (gk := gk) (gn := gn) (ge := ge) (gv := gv) (gp := gp) (gq := gq) (yk := yk) (yv := yv) hT hb hn hI hs
    obtain ⟨⟨b1, b2, b3, b4, b5, b6, b7, b8⟩, hB2⟩ := hB
    obtain ⟨u1, w1, r, KX, KY, hS⟩ := sj_call (F := F) (L := L) (D := D) (S := S) (A := 0) (P := 0) (d := 0) (Q := 0) (c := false) (va := v1) (a1 := 1) (a2 := v1) (ye := ye) (cu := cu) (ec := ec) (rc := rc) (rs := rs) (en := en) (wt := wt') (lc := lc') (yc := yc) (rK := rK) (rV := rV) (mk := mk') (wk := wk') (rm := rm') (yk := yk) (yv := yv) (fk := fk) (fn := fn) (fl := fl) (fm := fm) (gk := gk) (gn := gn) (ge := ge) (gv := gv) (gp := gp) (gq := gq) ⟨⟨b1, b2, b3, b4, b5, b6, by omega, by omega⟩, hB2⟩ (by omega) (by omega) hb' hn' True.intro hI (Or.inl ⟨rfl, rfl, rfl⟩) hs'
    obtain ⟨r', u', v', hR, LX, LY⟩ := sm_fin hS (by omega)
    refine br_t rfl ?_
    unfold wpX_startMachine wpX_forgetLastRun wpX_giveInt
    obtain ⟨_, _, _, _, _, _, _, _, _, _, _, _, _, _, _, _, _, _, _, _, _, _, _, _, _, _, _, _, _, _, _, _, _, _, _⟩ := u1
    refine KX _ ?_
    obtain ⟨_, _, _, _, _, _, _, _, _, _, _, _, _, _, _, _, _, _, _, _, _, _, _, _, _, _, _, _, _, _, _, _, _, _, _⟩ := u'
    unfold wpX_finishMachine
    refine LX _ ?_
    unfold wpY_callResult
    refine br_t rfl (KC _ ?_)
    obtain ⟨_, _, _, _, _, _, _, _, _, _, _, _, _, _, _, _, _, _, _, _, _, _, _, _, _, _, _, _, _, _, _, _, _, _, _, _, _, _, _, _, _⟩ := w1
    refine KY _ ?_
    obtain ⟨_, _, _, _, _, _, _, _, _, _, _, _, _, _, _, _, _, _, _, _, _, _, _, _, _, _, _, _, _, _, _, _, _, _, _, _, _, _, _, _, _⟩ := v'
    obtain ⟨l1, l2⟩ := LY (fun r' v' => r' = _ ∧ i_Rel (k + 3) _ v') ⟨rfl, hR⟩
    exact br_c l1 l2
section
variable {fu ll dl nc bs hK hV ca pk ct wt lc sp ye yc rK rV : Int32} {Nk Na N2 C1 C2 C3 Nf bk cl ck cv mk wk rm gk gn ge gv gp gq yk yv : Nat → Int32}
theorem yw_run_l {post : Int32 → SY → Prop} {x1 r' : Int32} {v' : SY} (K : ∀ post' : Int32 → SY → Prop, post' r' v' → wpY_machine post' (fu, ll, dl, nc, bs, hK, hV, ca, pk, ct, wt, lc, sp, 1, x1, rK, rV, Nk, Na, N2, C1, C2, C3, Nf, bk, cl, ck, cv, mk, wk, rm, gk, gn, ge, gv, gp, gq, sc_wr yk 0 (fun _ => 0) 8, sc_wr yv 0 (fun _ => 0) 8, 32768, 32768)) (h : post r' v') : ∀ d i, i + d = 8 → wY_run_60 post x1 fu ll dl nc bs hK hV ca pk ct wt lc sp ye yc rK rV 32768 32768 (d + 1) (nI i) Nk Na N2 C1 C2 C3 Nf bk cl ck cv mk wk rm gk gn ge gv gp gq (sc_wr yk 0 (fun _ => 0) i) (sc_wr yv 0 (fun _ => 0) i) := by
  obtain ⟨_, _, _, _, _, _, _, _, _, _, _, _, _, _, _, _, _, _, _, _, _, _, _, _, _, _, _, _, _, _, _, _, _, _, _, _, _, _, _, _, _⟩ := v'
  intro d
  induction d with
  | zero =>
    intro i hi
    have : i = 8 := by omega
    subst this
    exact br_t (nI_le (a := 8) (b := 8) (by omega) (by omega)) (K _ h)
  | succ d ih =>
    intro i hi
    refine br_f (nI_ge (a := i) (b := 8) (by omega) (by omega)) ⟨vp_in_nI (by omega) (by omega), nm_r (e' := sc_wr yk 0 (fun _ => 0) (i + 1)) (sc_wr_u (by rw [nI_clamp (by omega)]; omega) rfl) ⟨vp_in_nI (by omega) (by omega), nm_r (e' := sc_wr yv 0 (fun _ => 0) (i + 1)) (sc_wr_u (by rw [nI_clamp (by omega)]; omega) rfl) ?_⟩⟩
    exact nm_r (nI_1 i) (ih (i + 1) (by omega))
end
theorem i_vc_run {k : Nat} {u : SX} {v : SY} (I : i_Rel k u v) (hk : k + 3 ≤ 1539) : wpX_run (fun r u' => wpY_run (fun r' v' => r' = r ∧ i_Rel (k + 3) u' v') v) u := by
  have I0 := i_up I
  refine sc_RL_e I (fun hk hv st ev cu ec va vc dp rc hK hV ct wt lc yc rK rV nk nl n2 k1 k2 k3 nf sk en fk fn fl fm iu sl sw sm rs Nk N2 C1 C2 C3 cl ck cv mk wk rm gk gn ge gv gp gq yk yv sp ye F L D N S A P sz qu qv hB hD => ?_)
  clear I
  subst qu qv
  have hN := hB.1.2.2.2.2.1
  have hS := hB.1.2.2.2.2.2.1
  unfold wpX_run
  by_cases hS1 : S = 1
  · subst hS1
    obtain ⟨n, hn, en'⟩ := hB.2.2.1 0 (by omega)
    obtain ⟨⟨b1, b2, b3, b4, b5, b6, b7, b8⟩, hB2⟩ := hB
    have hB0 : sc_BA F L D N 1 0 0 sz nk nl n2 k1 k2 k3 nf sk Nk N2 C1 C2 C3 := ⟨⟨b1, b2, b3, b4, b5, b6, by omega, by omega⟩, hB2⟩
    refine br_t rfl ?_
    unfold wpX_startMachine wpX_forgetLastRun
    refine nm_r (e' := nI n) en' ⟨vp_in_nI (by omega) (by omega), ?_⟩
    rw [nI_clamp (n := n) (by omega)]
    by_cases hf : nf n = 0
    · have hz32 := (hB2.1 n hn).1.2
      obtain ⟨r', u', v', hR, LX, LY⟩ := sm_loop (3 * sz n + 0 + 93 * (F - 0)) (nI F, nI L, nI D, nI N, nI 1, 0, 0, nI 0, nI 0, -2, 1, nI n, 0, va, vc, nI 0, rc, nk, nl, n2, k1, k2, k3, nf, sk, en, fk, fn, fl, fm, sc_wr iu 0 (fun _ => 0) 34, sl, sw, sm, rs) (nI F, nI L, nI D, nI N, nI 1, 0, 0, nI 0, nI 0, nI 0, wt, lc, nI 0, 1, nI n, rK, rV, Nk, nl, N2, C1, C2, C3, nf, sk, cl, ck, cv, mk, wk, rm, gk, gn, ge, gv, gp, gq, sc_wr yk 0 (fun _ => 0) 8, sc_wr yv 0 (fun _ => 0) 8, 32768, 32768) (sc_MRk (T := 0) (d := 0) (Q := 0) (g := fun _ => 0) (U := fun _ => False) hB0 (by omega) rfl (by omega) ⟨⟨fun s h => h.elim, fun s t h => h.elim⟩, fun s h => h.elim, True.intro⟩ ⟨fun s hs => Or.inl (sc_wr_z hs), 0, fun i => i, by omega, fun s hs h1 => by rw [sc_wr_z hs] at h1; exact absurd h1 (by decide)⟩ (Or.inl ⟨rfl, n, hn, rfl, rfl, rfl, fun y hy hb => by rw [hf, b_0] at hb; cases hb⟩))
      refine br_t hf (xw_free ?_)
      unfold wpX_evaluate wpX_finishMachine
      obtain ⟨_, _, _, _, _, _, _, _, _, _, _, _, _, _, _, _, _, _, _, _, _, _, _, _, _, _, _, _, _, _, _, _, _, _, _⟩ := u'
      refine ⟨_, LX _ (3 * sz n + 0 + 93 * (F - 0) + 3) 0 (by omega) (by omega) ?_⟩
      unfold wpY_run
      refine br_t rfl (nm_r (e' := nI n) en' ⟨vp_in_nI (by omega) (by omega), ?_⟩)
      rw [nI_clamp (n := n) (by omega)]
      refine br_t hf ⟨9, ?_⟩
      have K := yw_run_l (post := fun r'' v'' => r'' = r' ∧ i_Rel (k + 3) _ v'') (x1 := nI n) (fu := nI F) (ll := nI L) (dl := nI D) (nc := nI N) (bs := nI 1) (hK := 0) (hV := 0) (ca := 0) (pk := 0) (ct := 0) (wt := wt) (lc := lc) (sp := 0) (ye := ye) (yc := yc) (rK := rK) (rV := rV) (Nk := Nk) (Na := nl) (N2 := N2) (C1 := C1) (C2 := C2) (C3 := C3) (Nf := nf) (bk := sk) (cl := cl) (ck := ck) (cv := cv) (mk := mk) (wk := wk) (rm := rm) (gk := gk) (gn := gn) (ge := ge) (gv := gv) (gp := gp) (gq := gq) (yk := yk) (yv := yv) (r' := r') (v' := v') (fun post' hp => ⟨_, LY post' (3 * sz n + 0 + 93 * (F - 0) + 3) 0 (by omega) (by omega) hp⟩) ⟨rfl, hR⟩ 8 0 (by omega)
      rw [sc_wr0, sc_wr0] at K
      exact K
    · refine br_f hf ?_
      unfold wpY_run
      refine br_t rfl (nm_r (e' := nI n) en' ⟨vp_in_nI (by omega) (by omega), ?_⟩)
      rw [nI_clamp (n := n) (by omega)]
      exact br_f hf ⟨rfl, sc_RLk (N := N) (S := 1) (A := 0) (P := 0) (sz := sz) (hB0) (Or.inl ⟨rfl, rfl, rfl, rfl⟩)⟩
  · have hne : ¬ nI S = 1 := fun z => hS1 (sc_nIi (b := 1) z (by omega) (by omega))
    refine br_f hne ?_
    unfold wpY_run
    exact br_f hne ⟨rfl, I0⟩
