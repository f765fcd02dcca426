/-! ===== the reference's frames and the end of its check, against the component's roots ===== -/
theorem sc_rc1 {g : Nat → Nat} {U : Nat → Prop} {T : Nat} {m c : Int32} {r k w : Nat → Int32} (h : sc_RW g U m r c k w) (hT : ∀ s, U s → g s < T) {y : Nat} (hy : y < 8) (hm : bt m y = true) (hk : k y = 2) : ∃ s, U s ∧ bt c y = true ∧ r y = nI s ∧ w y = nI (g s) := by
  rcases h y hy hm with ⟨_, z, _⟩ | ⟨h1, h2, s, hs, e1, e2⟩
  · rw [hk] at z; exact absurd z (by decide)
  · exact ⟨s, hs, h1, e1, e2⟩
section
variable {fu ll dl nc bs hK hV ca pk ct wt lc sp ye yc rK rV : Int32} {Nk Na N2 C1 C2 C3 Nf bk cl ck cv mk wk rm gk gn ge gv gp gq yk yv : Nat → Int32}
variable {fk fn fl fm k2 k3 : Nat → Int32} {g sz : Nat → Nat} {U : Nat → Prop} {N T : Nat}
/-- one row of a frame: what is marked is what the component's row holds -/
theorem yw_frow {c p i : Nat} {q w : Nat → Nat} {m : Int32} (H : sc_YS T mk wk lc wt c p q w) (hT : T ≤ 4096) (hi : i < 32) (hU : ∀ s, U s → s < 34 ∧ g s < T) (h1 : sc_RW g U m (fun y => fl (i * 8 + y)) (fm i) (fun y => ge (i * 8 + y)) (fun y => gv (i * 8 + y))) (h2 : sc_CM m (fm i)) : ∃ mk' wk' lc' wt' c' p' q' w', sc_YS T mk' wk' lc' wt' c' p' q' w' ∧ sc_YX c p q w c' p' q' w' ∧ (∀ s, sc_FR fl fm i s → sc_in c' q' (g s)) ∧ (∀ j, j < c' → j < c ∨ ∃ s, sc_FR fl fm i s ∧ q' j = g s) ∧ ∀ (post : Int32 → SY → Prop) J2 n, 8 < n → J2 (nI (i + 1)) fu ll dl nc bs hK hV ca pk ct wt' lc' sp ye yc rK rV Nk Na N2 C1 C2 C3 Nf bk cl ck cv mk' wk' rm gk gn ge gv gp gq yk yv 32768 32768 → wY_endCheck_111 post J2 (nI i) m n 0 fu ll dl nc bs hK hV ca pk ct wt lc sp ye yc rK rV Nk Na N2 C1 C2 C3 Nf bk cl ck cv mk wk rm gk gn ge gv gp gq yk yv 32768 32768 := by
  obtain ⟨mk2, wk2, lc2, wt2, c2, p2, q2, w2, b1, b2, b3, b4, K2⟩ := yw_rowF (fu := fu) (ll := ll) (dl := dl) (nc := nc) (bs := bs) (hK := hK) (hV := hV) (ca := ca) (pk := pk) (ct := ct) (sp := sp) (ye := ye) (yc := yc) (rK := rK) (rV := rV) (Nk := Nk) (Na := Na) (N2 := N2) (C1 := C1) (C2 := C2) (C3 := C3) (Nf := Nf) (bk := bk) (cl := cl) (ck := ck) (cv := cv) (rm := rm) (gk := gk) (gn := gn) (ge := ge) (gv := gv) (gp := gp) (gq := gq) (yk := yk) (yv := yv) (b := i) (m := m) H hT hi (by
    intro y hy hm hk
    obtain ⟨s, hs, _, _, e⟩ := sc_rc1 h1 (fun s hs => (hU s hs).2) hy hm hk
    exact ⟨g s, (hU s hs).2, e⟩)
  refine ⟨mk2, wk2, lc2, wt2, c2, p2, q2, w2, b1, b2, ?_, ?_, K2⟩
  · intro s hs
    obtain ⟨h34, y, hy, hc, e⟩ := hs
    obtain ⟨e1, e2, e3⟩ := sc_RW_k h1 (fun s hs => (hU s hs).1) hy (h2 y hy hc) hc h34 e
    obtain ⟨j, hj, e4, e5⟩ := b3 y hy (h2 y hy hc) e2
    have hg := (hU s e1).2
    have : g s = j := sc_nIi (e3.symm.trans e4) (by omega) (by omega)
    exact this ▸ e5
  · intro j hj
    rcases b4 j hj with h | ⟨y, hy, hm, e1, e2⟩
    · exact Or.inl h
    · obtain ⟨s, hs, hc, e3, e4⟩ := sc_rc1 h1 (fun s hs => (hU s hs).2) hy hm e1
      have hg := (hU s hs).2
      have hq := b1.2.2.2.1 j hj
      exact Or.inr ⟨s, ⟨(hU s hs).1, y, hy, hc, e3⟩, sc_nIi (e2.symm.trans e4) (by omega) (by omega)⟩
theorem yw_frame {c p i d v : Nat} {q w : Nat → Nat} (H : sc_YS T mk wk lc wt c p q w) (hT : T ≤ 4096) (hi : i < d) (hd : d ≤ 32) (hN : N ≤ 32) (hU : ∀ s, U s → s < 34 ∧ g s < T) (hF : sc_FO g U N sz Na k2 k3 Nf C2 C3 fk fn fl fm gk gn ge gv gp gq i v) : ∃ mk' wk' lc' wt' c' p' q' w', sc_YS T mk' wk' lc' wt' c' p' q' w' ∧ sc_YX c p q w c' p' q' w' ∧ (∀ s, sc_FR fl fm i s → sc_in c' q' (g s)) ∧ (∀ j, j < c' → j < c ∨ ∃ s, sc_FR fl fm i s ∧ q' j = g s) ∧ ∀ (post : Int32 → SY → Prop) n, wY_endCheck_2 post n (nI (i + 1)) fu ll dl nc bs hK hV ca pk ct wt' lc' (nI d) ye yc rK rV Nk Na N2 C1 C2 C3 Nf bk cl ck cv mk' wk' rm gk gn ge gv gp gq yk yv 32768 32768 → wY_endCheck_2 post (n + 1) (nI i) fu ll dl nc bs hK hV ca pk ct wt lc (nI d) ye yc rK rV Nk Na N2 C1 C2 C3 Nf bk cl ck cv mk wk rm gk gn ge gv gp gq yk yv 32768 32768 := by
  obtain ⟨n, hn, f1, f2, hF⟩ := hF
  have ei : (nI i).toNatClampNeg = i := nI_clamp (by omega)
  have en : (nI n).toNatClampNeg = n := nI_clamp (by omega)
  have vi : vp_in (nI i) 32 := vp_in_nI (by omega) (by omega)
  have vn : vp_in (nI n) 32 := vp_in_nI (by omega) (by omega)
  rcases hF with ⟨hk, b, hb, _, e2, _, a1, a2⟩ | ⟨hk, _, cc, a1, a2⟩ | ⟨_, hk, b, e, hb, he, _, e2, _, e3, _, a1, a2⟩ | ⟨_, hk, x, b, hx, hb, ex, _, e2, _, a1, a2⟩
  · obtain ⟨mk2, wk2, lc2, wt2, c2, p2, q2, w2, b1, b2, b3, b4, K2⟩ := yw_frow (fu := fu) (ll := ll) (dl := dl) (nc := nc) (bs := bs) (hK := hK) (hV := hV) (ca := ca) (pk := pk) (ct := ct) (sp := nI d) (ye := ye) (yc := yc) (rK := rK) (rV := rV) (Nk := Nk) (Na := Na) (N2 := N2) (C1 := C1) (C2 := C2) (C3 := C3) (Nf := Nf) (bk := bk) (cl := cl) (ck := ck) (cv := cv) (rm := rm) (gk := gk) (gn := gn) (ge := ge) (gv := gv) (gp := gp) (gq := gq) (yk := yk) (yv := yv) (fl := fl) (fm := fm) (g := g) (U := U) H hT (by omega) hU a1 a2
    refine ⟨mk2, wk2, lc2, wt2, c2, p2, q2, w2, b1, b2, b3, b4, fun post n' h => br_f (nI_ge hi (by omega)) ⟨vi, nm_e ⟨vi, nm_r (e' := nI n) (by rw [ei]; exact f2) ?_⟩⟩⟩
    have eb : (C2 n).toNatClampNeg = b := by rw [e2]; exact nI_clamp (by omega)
    have vb : vp_in (C2 n) 32 := by rw [e2]; exact vp_in_nI (by omega) (by omega)
    have k1 : gk i = 1 ∨ gk i = 3 := hk.elim (fun z => Or.inl z.2) (fun z => Or.inr z.2)
    rw [ei]
    have k2 : ¬ gk i = 2 ∧ ¬ gk i = 4 ∧ ¬ gk i = 5 ∧ ¬ gk i = 6 := by rcases k1 with z | z <;> rw [z] <;> decide
    refine br_f k2.1 (br_f k2.2.1 ⟨vn, by rw [en]; exact vb, nm_r (e' := Nf b) (by rw [en, eb]) (br_f k2.2.2.1 (br_f k2.2.2.2 ⟨9, K2 post _ 9 (by omega) h⟩))⟩)
  · obtain ⟨mk2, wk2, lc2, wt2, c2, p2, q2, w2, b1, b2, b3, b4, K2⟩ := yw_mark (fu := fu) (ll := ll) (dl := dl) (nc := nc) (bs := bs) (hK := hK) (hV := hV) (ca := ca) (pk := pk) (ct := ct) (sp := nI d) (ye := ye) (yc := yc) (rK := rK) (rV := rV) (Nk := Nk) (Na := Na) (N2 := N2) (C1 := C1) (C2 := C2) (C3 := C3) (Nf := Nf) (bk := bk) (cl := cl) (ck := ck) (cv := cv) (rm := rm) (gk := gk) (gn := gn) (ge := ge) (gv := gv) (gp := gp) (gq := gq) (yk := yk) (yv := yv) (k := gp i) (v := gq i) H hT (by
      intro z
      rcases a2 with ⟨_, z2, _⟩ | ⟨_, _, s, hs, _, e⟩
      · rw [z] at z2; exact absurd z2 (by decide)
      · exact ⟨g s, (hU s hs).2, e⟩)
    refine ⟨mk2, wk2, lc2, wt2, c2, p2, q2, w2, b1, b2, ?_, ?_, fun post n' h => br_f (nI_ge hi (by omega)) ⟨vi, nm_e ⟨vi, nm_r (e' := nI n) (by rw [ei]; exact f2) ?_⟩⟩⟩
    · intro s hs
      obtain ⟨h34, y, hy, hc, e⟩ := hs
      rw [a1] at hc
      obtain ⟨rfl, rfl⟩ := sc_bi1 cc y hy hc
      rcases a2 with ⟨z, _⟩ | ⟨_, z2, t, ht, e1, e2⟩
      · cases z
      · have : s = t := sc_nIi (e.symm.trans e1) (by omega) (by have := (hU t ht).1; omega)
        subst this
        obtain ⟨j, hj, e3, e4⟩ := b3 z2
        have hg := (hU s ht).2
        have : g s = j := sc_nIi (e2.symm.trans e3) (by omega) (by omega)
        exact this ▸ e4
    · intro j hj
      rcases b4 j hj with h | ⟨z, e⟩
      · exact Or.inl h
      · rcases a2 with ⟨_, z2, _⟩ | ⟨z1, _, s, hs, e1, e2⟩
        · rw [z] at z2; exact absurd z2 (by decide)
        · have hg := (hU s hs).2
          have hq := b1.2.2.2.1 j hj
          exact Or.inr ⟨s, ⟨(hU s hs).1, 0, by omega, by rw [a1, sc_bi0]; exact z1, e1⟩, sc_nIi (e.symm.trans e2) (by omega) (by omega)⟩
    · rw [ei]
      rcases hk with z | z
      · refine br_t z.2 ⟨vi, vi, ?_⟩
        rw [ei]
        exact K2 _ (nm_r (nI_1 i) h)
      · refine br_f (by rw [z.2]; decide) (br_t z.2 ⟨vi, vi, ?_⟩)
        rw [ei]
        exact K2 _ (nm_r (nI_1 i) h)
  · obtain ⟨mk2, wk2, lc2, wt2, c2, p2, q2, w2, b1, b2, b3, b4, K2⟩ := yw_frow (fu := fu) (ll := ll) (dl := dl) (nc := nc) (bs := bs) (hK := hK) (hV := hV) (ca := ca) (pk := pk) (ct := ct) (sp := nI d) (ye := ye) (yc := yc) (rK := rK) (rV := rV) (Nk := Nk) (Na := Na) (N2 := N2) (C1 := C1) (C2 := C2) (C3 := C3) (Nf := Nf) (bk := bk) (cl := cl) (ck := ck) (cv := cv) (rm := rm) (gk := gk) (gn := gn) (ge := ge) (gv := gv) (gp := gp) (gq := gq) (yk := yk) (yv := yv) (fl := fl) (fm := fm) (g := g) (U := U) H hT (by omega) hU a1 a2
    refine ⟨mk2, wk2, lc2, wt2, c2, p2, q2, w2, b1, b2, b3, b4, fun post n' h => br_f (nI_ge hi (by omega)) ⟨vi, nm_e ⟨vi, nm_r (e' := nI n) (by rw [ei]; exact f2) ?_⟩⟩⟩
    have eb : (C2 n).toNatClampNeg = b := by rw [e2]; exact nI_clamp (by omega)
    have vb : vp_in (C2 n) 32 := by rw [e2]; exact vp_in_nI (by omega) (by omega)
    have ee : (C3 n).toNatClampNeg = e := by rw [e3]; exact nI_clamp (by omega)
    have ve : vp_in (C3 n) 32 := by rw [e3]; exact vp_in_nI (by omega) (by omega)
    rw [ei]
    refine br_f (by rw [hk]; decide) (br_f (by rw [hk]; decide) ⟨vn, by rw [en]; exact vb, nm_r (e' := Nf b) (by rw [en, eb]) (br_t hk ⟨vn, by rw [en]; exact ve, nm_r (e' := Nf b ||| Nf e) (by rw [en, ee]) (br_f (by rw [hk]; decide) ⟨9, K2 post _ 9 (by omega) h⟩)⟩)⟩)
  · obtain ⟨mk2, wk2, lc2, wt2, c2, p2, q2, w2, b1, b2, b3, b4, K2⟩ := yw_frow (fu := fu) (ll := ll) (dl := dl) (nc := nc) (bs := bs) (hK := hK) (hV := hV) (ca := ca) (pk := pk) (ct := ct) (sp := nI d) (ye := ye) (yc := yc) (rK := rK) (rV := rV) (Nk := Nk) (Na := Na) (N2 := N2) (C1 := C1) (C2 := C2) (C3 := C3) (Nf := Nf) (bk := bk) (cl := cl) (ck := ck) (cv := cv) (rm := rm) (gk := gk) (gn := gn) (ge := ge) (gv := gv) (gp := gp) (gq := gq) (yk := yk) (yv := yv) (fl := fl) (fm := fm) (g := g) (U := U) H hT (by omega) hU a1 a2
    refine ⟨mk2, wk2, lc2, wt2, c2, p2, q2, w2, b1, b2, b3, b4, fun post n' h => br_f (nI_ge hi (by omega)) ⟨vi, nm_e ⟨vi, nm_r (e' := nI n) (by rw [ei]; exact f2) ?_⟩⟩⟩
    have eb : (C2 n).toNatClampNeg = b := by rw [e2]; exact nI_clamp (by omega)
    have vb : vp_in (C2 n) 32 := by rw [e2]; exact vp_in_nI (by omega) (by omega)
    rw [ei]
    refine br_f (by rw [hk]; decide) (br_f (by rw [hk]; decide) ⟨vn, by rw [en]; exact vb, nm_r (e' := Nf b) (by rw [en, eb]) (br_f (by rw [hk]; decide) (br_t hk ⟨vn, nm_r (e' := Nf b &&& (((1 : Int32) <<< (nI x &&& 31)) ^^^ (-1))) (by rw [en, ex]) ⟨9, K2 post _ 9 (by omega) h⟩⟩))⟩)
end
