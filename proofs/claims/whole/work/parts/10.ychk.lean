/-! ===== the end of the reference's check ===== -/
theorem sc_HN_y {g : Nat → Nat} {U : Nat → Prop} {n0 T : Nat} {kd fv sl slv slc cl ck cv : Nat → Int32} {s y : Nat} (h : sc_HN g U n0 kd fv sl slv slc cl ck cv s) (hU : ∀ s, U s → s < 34 ∧ g s < T) (hy : y < 8) (e : ck (g s * 8 + y) = 2) : ∃ t, U t ∧ sc_EX slv slc s t ∧ cv (g s * 8 + y) = nI (g t) := by
  obtain ⟨l, h1, h2, h3, h4, h5, h6, h7⟩ := h
  cases hb : bt (fv l) y with
  | false => exact absurd e (h7 y hy hb)
  | true =>
    obtain ⟨t, ht, hc, e1, e2⟩ := sc_rc1 h5 (fun s hs => (hU s hs).2) hy hb e
    exact ⟨t, ht, ⟨(hU t ht).1, y, hy, hc, e1⟩, e2⟩
theorem sc_HN_x {g : Nat → Nat} {U : Nat → Prop} {n0 : Nat} {kd fv sl slv slc cl ck cv : Nat → Int32} {s t : Nat} (h : sc_HN g U n0 kd fv sl slv slc cl ck cv s) (hU : ∀ s, U s → s < 34) (e : sc_EX slv slc s t) : ∃ y, y < 8 ∧ ck (g s * 8 + y) = 2 ∧ cv (g s * 8 + y) = nI (g t) := by
  obtain ⟨l, h1, h2, h3, h4, h5, h6, h7⟩ := h
  obtain ⟨ht, y, hy, hc, ev⟩ := e
  obtain ⟨_, e2, e3⟩ := sc_RW_k h5 hU hy (h6 y hy hc) hc ht ev
  exact ⟨y, hy, e2, e3⟩
section
variable {fu ll dl nc bs hK hV ca pk ct wt lc sp ye yc rK rV : Int32} {Nk Na N2 C1 C2 C3 Nf bk cl ck cv mk wk rm gk gn ge gv gp gq yk yv : Nat → Int32}
variable {fk fn fl fm k2 k3 nk sl sw sm : Nat → Int32} {g sz : Nat → Nat} {U V : Nat → Prop} {N T : Nat}
theorem yw_endF {c p d : Nat} {q w : Nat → Nat} (H : sc_YS T mk wk lc wt c p q w) (hT : T ≤ 4096) (hd : d ≤ 32) (hN : N ≤ 32) (hU : ∀ s, U s → s < 34 ∧ g s < T) (hF : ∀ i, i < d → ∃ v, sc_FO g U N sz Na k2 k3 Nf C2 C3 fk fn fl fm gk gn ge gv gp gq i v) : ∃ mk' wk' lc' wt' c' p' q' w', sc_YS T mk' wk' lc' wt' c' p' q' w' ∧ sc_YX c p q w c' p' q' w' ∧ (∀ i s, i < d → sc_FR fl fm i s → sc_in c' q' (g s)) ∧ (∀ j, j < c' → j < c ∨ ∃ i s, i < d ∧ sc_FR fl fm i s ∧ q' j = g s) ∧ ∀ (post : Int32 → SY → Prop) n, d < n → (∀ m, wY_endCheck_2 post (m + 1) (nI d) fu ll dl nc bs hK hV ca pk ct wt' lc' (nI d) ye yc rK rV Nk Na N2 C1 C2 C3 Nf bk cl ck cv mk' wk' rm gk gn ge gv gp gq yk yv 32768 32768) → wY_endCheck_2 post n 0 fu ll dl nc bs hK hV ca pk ct wt lc (nI d) ye yc rK rV Nk Na N2 C1 C2 C3 Nf bk cl ck cv mk wk rm gk gn ge gv gp gq yk yv 32768 32768 := by
  have L := sc_loop (P := Int32 → SY → Prop) (S := (Nat → Int32) × (Nat → Int32) × Int32 × Int32) (fun o n i s => wY_endCheck_2 o n (nI i) fu ll dl nc bs hK hV ca pk ct s.2.2.2 s.2.2.1 (nI d) ye yc rK rV Nk Na N2 C1 C2 C3 Nf bk cl ck cv s.1 s.2.1 rm gk gn ge gv gp gq yk yv 32768 32768) (fun o s => ∀ m, wY_endCheck_2 o (m + 1) (nI d) fu ll dl nc bs hK hV ca pk ct s.2.2.2 s.2.2.1 (nI d) ye yc rK rV Nk Na N2 C1 C2 C3 Nf bk cl ck cv s.1 s.2.1 rm gk gn ge gv gp gq yk yv 32768 32768) (fun j s => ∃ c' p' q' w', sc_YS T s.1 s.2.1 s.2.2.1 s.2.2.2 c' p' q' w' ∧ sc_YX c p q w c' p' q' w' ∧ (∀ i t, i < j → sc_FR fl fm i t → sc_in c' q' (g t)) ∧ (∀ j, j < c' → j < c ∨ ∃ i s, i < d ∧ sc_FR fl fm i s ∧ q' j = g s)) d ?_ ?_ d 0 (mk, wk, lc, wt) (Nat.zero_add d) ⟨c, p, q, w, H, sc_YX_r, fun i t hi => absurd hi (Nat.not_lt_zero i), fun i hi => Or.inl hi⟩
  · obtain ⟨s', ⟨c', p', q', w', a1, a2, a3, a4⟩, KK⟩ := L
    exact ⟨_, _, _, _, c', p', q', w', a1, a2, a3, a4, fun post n hn h => KK post n hn h⟩
  · intro o n s _ hp
    exact hp n
  · intro i s hi hI
    obtain ⟨c', p', q', w', a1, a2, a3, a4⟩ := hI
    obtain ⟨v, hv⟩ := hF i hi
    obtain ⟨mk2, wk2, lc2, wt2, c2, p2, q2, w2, b1, b2, b3, b4, K2⟩ := yw_frame (fu := fu) (ll := ll) (dl := dl) (nc := nc) (bs := bs) (hK := hK) (hV := hV) (ca := ca) (pk := pk) (ct := ct) (ye := ye) (yc := yc) (rK := rK) (rV := rV) (Nk := Nk) (N2 := N2) (C1 := C1) (bk := bk) (cl := cl) (ck := ck) (cv := cv) (rm := rm) (yk := yk) (yv := yv) a1 hT hi hd hN hU hv
    refine ⟨(mk2, wk2, lc2, wt2), ⟨c2, p2, q2, w2, b1, sc_YX_t a2 b2, ?_, ?_⟩, fun o n h => K2 o n h⟩
    · intro j t hj ht
      by_cases e : j = i
      · subst e
        exact b3 t ht
      · exact sc_ex_in b2.1 (a3 j t (by omega) ht)
    · intro j hj
      rcases b4 j hj with h | ⟨s, hs, e⟩
      · rw [b2.1.2 j h]
        exact a4 j h
      · exact Or.inr ⟨i, s, hi, hs, e⟩
/-- drain and the two tests -/
theorem yw_endT {c d L P : Nat} {q w : Nat → Nat} (H : sc_YS T mk wk lc wt c c q w) (hT : T ≤ 4096) (hL : L < 2 ^ 31) (hp : P < 2 ^ 31) (hd : d ≤ 32) (hU : ∀ s, U s → s < 34 ∧ g s < T) (hVV : ∀ s, V s → U s) (hE : ∀ s t, V s → sc_EX sw sm s t → V t) (hH : ∀ s, V s → sc_HN g U N nk Nf sl sw sm cl ck cv s) (hq : ∀ i, i < c → ∃ s, V s ∧ q i = g s) (hw : ∀ i, i < c → sc_in c w (q i)) : ∃ mk' wk' lc' wt' c' q' w', sc_YS T mk' wk' lc' wt' c' 0 q' w' ∧ sc_ex c q c' q' ∧ (∀ i, i < c' → ∃ s, V s ∧ q' i = g s) ∧ (∀ s t, V s → sc_in c' q' (g s) → sc_EX sw sm s t → sc_in c' q' (g t)) ∧ ∀ (post : Int32 → SY → Prop) m, post (if c' ≤ L then -2 else 6) (fu, nI L, dl, nc, bs, hK, hV, ca, nI (if c' ≤ P then P else c'), ct, wt', lc', nI d, ye, yc, rK, rV, Nk, Na, N2, C1, C2, C3, Nf, bk, cl, ck, cv, mk', wk', rm, gk, gn, ge, gv, gp, gq, yk, yv, 32768, 32768) → wY_endCheck_2 post (m + 1) (nI d) fu (nI L) dl nc bs hK hV ca (nI P) ct wt lc (nI d) ye yc rK rV Nk Na N2 C1 C2 C3 Nf bk cl ck cv mk wk rm gk gn ge gv gp gq yk yv 32768 32768 := by
  obtain ⟨mk2, wk2, lc2, wt2, c2, q2, w2, b1, b2, b3, b4, K2⟩ := yw_drain (R := fun j => ∃ s, V s ∧ j = g s) (fu := fu) (ll := nI L) (dl := dl) (nc := nc) (bs := bs) (hK := hK) (hV := hV) (ca := ca) (pk := nI P) (ct := ct) (sp := nI d) (ye := ye) (yc := yc) (rK := rK) (rV := rV) (Nk := Nk) (Na := Na) (N2 := N2) (C1 := C1) (C2 := C2) (C3 := C3) (Nf := Nf) (bk := bk) (cl := cl) (ck := ck) (cv := cv) (rm := rm) (gk := gk) (gn := gn) (ge := ge) (gv := gv) (gp := gp) (gq := gq) (yk := yk) (yv := yv) hT (by
    intro j hj
    obtain ⟨s, hs, rfl⟩ := hj
    exact (hU s (hVV s hs)).2) (by
    intro j hj y hy e
    obtain ⟨s, hs, rfl⟩ := hj
    obtain ⟨t, ht, ex, e2⟩ := sc_HN_y (hH s hs) hU hy e
    exact ⟨g t, ⟨t, hE s t hs ex, rfl⟩, e2⟩) H hq hw
  have hc := sc_YS_b b1
  have hlc := b1.1
  refine ⟨mk2, wk2, lc2, wt2, c2, q2, w2, b1, b2, b3, ?_, fun post m h => ?_⟩
  · intro s t hs hi ex
    obtain ⟨y, hy, e1, e2⟩ := sc_HN_x (hH s hs) (fun s hs => (hU s hs).1) ex
    exact b4 (g s) (g t) hi ⟨(hU t (hVV t (hE s t hs ex))).2, y, hy, e1, e2⟩
  · refine br_t (nI_le (a := d) (b := d) (by omega) (by omega)) (K2 _ ?_)
    refine pk_le c2 P (fun h1 => pk_le c2 L (fun h2 => ?_) (fun h2 => ?_) hlc) (fun h1 => pk_le c2 L (fun h2 => ?_) (fun h2 => ?_) hlc) hlc
    · rw [if_pos h1, if_pos h2] at h; exact h
    · rw [if_pos h1, if_neg (show ¬ c2 ≤ L by omega)] at h; exact h
    · rw [if_neg (show ¬ c2 ≤ P by omega), if_pos h2, ← hlc] at h; exact h
    · rw [if_neg (show ¬ c2 ≤ P by omega), if_neg (show ¬ c2 ≤ L by omega), ← hlc] at h; exact h
/-- the whole end of the check: what is marked behind it is what the component reaches -/
theorem yw_end {c d L P : Nat} {q w : Nat → Nat} {SR : Nat → Prop} (H : sc_YS T mk wk lc wt c c q w) (hT : T ≤ 4096) (hL : L < 2 ^ 31) (hp : P < 2 ^ 31) (hd : d ≤ 32) (hN : N ≤ 32) (hU : ∀ s, U s → s < 34 ∧ g s < T) (hF : ∀ i, i < d → ∃ v, sc_FO g U N sz Na k2 k3 Nf C2 C3 fk fn fl fm gk gn ge gv gp gq i v) (hH : ∀ s, U s → sc_HN g U N nk Nf sl sw sm cl ck cv s) (hS : ∀ s, SR s → U s) (hq : ∀ i, i < c → ∃ s, SR s ∧ q i = g s) (hs : ∀ s, SR s → sc_in c q (g s)) (hw : ∀ i, i < c → sc_in c w (q i)) : ∃ mk' wk' lc' wt' c' q' w', sc_YS T mk' wk' lc' wt' c' 0 q' w' ∧ (∀ j, sc_in c' q' j ↔ ∃ s, sc_rc (sc_RX SR fl fm d) (sc_EX sw sm) s ∧ j = g s) ∧ ∀ (post : Int32 → SY → Prop), post (if c' ≤ L then -2 else 6) (fu, nI L, dl, nc, bs, hK, hV, ca, nI (if c' ≤ P then P else c'), ct, wt', lc', nI d, ye, yc, rK, rV, Nk, Na, N2, C1, C2, C3, Nf, bk, cl, ck, cv, mk', wk', rm, gk, gn, ge, gv, gp, gq, yk, yv, 32768, 32768) → wpY_endCheck post (fu, nI L, dl, nc, bs, hK, hV, ca, nI P, ct, wt, lc, nI d, ye, yc, rK, rV, Nk, Na, N2, C1, C2, C3, Nf, bk, cl, ck, cv, mk, wk, rm, gk, gn, ge, gv, gp, gq, yk, yv, 32768, 32768) := by
  have hVU : ∀ s, sc_rc (sc_RX SR fl fm d) (sc_EX sw sm) s → U s := by
    refine sc_iso1 ?_ ?_
    · intro s h
      rcases h with h | ⟨i, hi, h⟩
      · exact hS s h
      · obtain ⟨v, hv⟩ := hF i hi
        exact sc_FO_k hv (fun s hs => (hU s hs).1) s h
    · intro s t h e
      exact sc_HN_k (hH s h) (fun s hs => (hU s hs).1) e
  obtain ⟨mk1, wk1, lc1, wt1, c1, p1, q1, w1, a1, a2, a3, a4, K1⟩ := yw_endF (fu := fu) (ll := nI L) (dl := dl) (nc := nc) (bs := bs) (hK := hK) (hV := hV) (ca := ca) (pk := nI P) (ct := ct) (ye := ye) (yc := yc) (rK := rK) (rV := rV) (Nk := Nk) (N2 := N2) (C1 := C1) (bk := bk) (cl := cl) (ck := ck) (cv := cv) (rm := rm) (yk := yk) (yv := yv) H hT hd hN hU hF
  have hp1 : p1 = c1 := by have := a2.2.2.1; omega
  subst hp1
  obtain ⟨mk2, wk2, lc2, wt2, c2, q2, w2, b1, b2, b3, b4, K2⟩ := yw_endT (V := sc_rc (sc_RX SR fl fm d) (sc_EX sw sm)) (d := d) (L := L) (P := P) (fu := fu) (dl := dl) (nc := nc) (bs := bs) (hK := hK) (hV := hV) (ca := ca) (ct := ct) (ye := ye) (yc := yc) (rK := rK) (rV := rV) (Nk := Nk) (Na := Na) (N2 := N2) (C1 := C1) (C2 := C2) (C3 := C3) (bk := bk) (rm := rm) (gk := gk) (gn := gn) (ge := ge) (gv := gv) (gp := gp) (gq := gq) (yk := yk) (yv := yv) a1 hT hL hp hd hU hVU (fun s t h e => sc_rc_e h e) (fun s h => hH s (hVU s h)) (by
    intro j hj
    rcases a4 j hj with h | ⟨i, s, hi, h, e⟩
    · obtain ⟨s, h1, h2⟩ := hq j h
      exact ⟨s, sc_rc_r (Or.inl h1), by rw [a2.1.2 j h]; exact h2⟩
    · exact ⟨s, sc_rc_r (Or.inr ⟨i, hi, h⟩), e⟩) (by
    intro j hj
    rcases a2.2.2.2 j hj with h | h
    · rw [a2.1.2 j h]
      exact sc_ex_in a2.2.1 (hw j h)
    · exact h)
  refine ⟨mk2, wk2, lc2, wt2, c2, q2, w2, b1, ?_, fun post h => ⟨d + 1, K1 post (d + 1) (by omega) (fun m => K2 post m h)⟩⟩
  intro j
  constructor
  · intro h
    obtain ⟨i, hi, e⟩ := h
    obtain ⟨s, h1, h2⟩ := b3 i hi
    exact ⟨s, h1, e.symm.trans h2⟩
  · intro h
    obtain ⟨s, h1, rfl⟩ := h
    refine (h1 (fun s => sc_rc (sc_RX SR fl fm d) (sc_EX sw sm) s ∧ sc_in c2 q2 (g s)) ?_ ?_).2
    · intro a ha
      refine ⟨sc_rc_r ha, ?_⟩
      rcases ha with ha | ⟨i, hi, ha⟩
      · exact sc_ex_in b2 (sc_ex_in a2.1 (hs a ha))
      · exact sc_ex_in b2 (a3 i a hi ha)
    · intro a b ha e
      exact ⟨sc_rc_e ha.1 e, b4 a b ha.1 ha.2 e⟩
end
/-- both sides count the same -/
theorem sc_same {c c' : Nat} {q q' : Nat → Nat} {V : Nat → Prop} {g : Nat → Nat} (i1 : ∀ i j, i < c → j < c → q i = q j → i = j) (i2 : ∀ i j, i < c' → j < c' → q' i = q' j → i = j) (h1 : ∀ s, sc_in c q s ↔ V s) (h2 : ∀ j, sc_in c' q' j ↔ ∃ s, V s ∧ j = g s) (hg : ∀ s t, V s → V t → g s = g t → s = t) : c = c' := by
  apply Nat.le_antisymm
  · refine sc_pig (T := fun i j => q' j = g (q i)) ?_ ?_
    · intro i hi
      obtain ⟨j, hj, e⟩ := (h2 (g (q i))).mpr ⟨q i, (h1 _).mp ⟨i, hi, rfl⟩, rfl⟩
      exact ⟨j, hj, e⟩
    · intro i k j hi hk a b
      exact i1 i k hi hk (hg _ _ ((h1 _).mp ⟨i, hi, rfl⟩) ((h1 _).mp ⟨k, hk, rfl⟩) (a.symm.trans b))
  · refine sc_pig (T := fun j i => q' j = g (q i)) ?_ ?_
    · intro j hj
      obtain ⟨s, hs, e⟩ := (h2 (q' j)).mp ⟨j, hj, rfl⟩
      obtain ⟨i, hi, e2⟩ := (h1 s).mpr hs
      exact ⟨i, hi, by rw [e2]; exact e⟩
    · intro j k i hj hk a b
      exact i2 j k hj hk (a.trans b.symm)
