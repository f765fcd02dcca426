/-! ===== the reference's live check ===== -/
/-- marked so far: c closures listed by q; p of them wait, listed by w -/
def sc_YS (T : Nat) (mk wk : Nat → Int32) (lc wt : Int32) (c p : Nat) (q w : Nat → Nat) : Prop := lc = nI c ∧ wt = nI p ∧ p ≤ c ∧ (∀ i, i < c → q i < T) ∧ (∀ i j, i < c → j < c → q i = q j → i = j) ∧ (∀ j, j < T → (mk j = 1 ∧ sc_in c q j) ∨ (mk j = 0 ∧ ¬ sc_in c q j)) ∧ ∀ i, i < p → wk i = nI (w i) ∧ sc_in c q (w i)
/-- what is new is listed behind, and waits -/
def sc_YX (c p : Nat) (q w : Nat → Nat) (c' p' : Nat) (q' w' : Nat → Nat) : Prop := sc_ex c q c' q' ∧ sc_ex p w p' w' ∧ c' + p = c + p' ∧ ∀ i, i < c' → i < c ∨ sc_in p' w' (q' i)
theorem sc_YX_r {c p : Nat} {q w : Nat → Nat} : sc_YX c p q w c p q w := ⟨sc_ex_r, sc_ex_r, rfl, fun _ hi => Or.inl hi⟩
theorem sc_YX_t {c p c' p' c'' p'' : Nat} {q w q' w' q'' w'' : Nat → Nat} (h : sc_YX c p q w c' p' q' w') (k : sc_YX c' p' q' w' c'' p'' q'' w'') : sc_YX c p q w c'' p'' q'' w'' := by
  refine ⟨sc_ex_t h.1 k.1, sc_ex_t h.2.1 k.2.1, by have := h.2.2.1; have := k.2.2.1; omega, fun i hi => ?_⟩
  rcases k.2.2.2 i hi with a | a
  · rcases h.2.2.2 i a with b | b
    · exact Or.inl b
    · refine Or.inr ?_
      rw [k.1.2 i a]
      exact sc_ex_in k.2.1 b
  · exact Or.inr a
theorem sc_YS_b {T : Nat} {mk wk : Nat → Int32} {lc wt : Int32} {c p : Nat} {q w : Nat → Nat} (h : sc_YS T mk wk lc wt c p q w) : c ≤ T := by
  refine sc_pig (T := fun i j => q i = j) (fun i hi => ⟨q i, h.2.2.2.1 i hi, rfl⟩) ?_
  intro i k j hi hk a b
  exact h.2.2.2.2.1 i k hi hk (a.trans b.symm)
theorem sc_YS_p {T : Nat} {mk wk : Nat → Int32} {lc wt : Int32} {c p j : Nat} {q w : Nat → Nat} (h : sc_YS T mk wk lc wt c p q w) (hj : j < T) (hn : ¬ sc_in c q j) : sc_YS T (upd mk j 1) (upd wk p (nI j)) (nI (c + 1)) (nI (p + 1)) (c + 1) (p + 1) (fun i => if i = c then j else q i) (fun i => if i = p then j else w i) := by
  obtain ⟨_, _, h3, h4, h5, h6, h7⟩ := h
  have ne : ∀ i, i < c → q i ≠ j := fun i hi e => hn ⟨i, hi, e⟩
  have hin : ∀ t, sc_in c q t → sc_in (c + 1) (fun i => if i = c then j else q i) t := fun t ht => sc_ex_in sc_ex_p ht
  refine ⟨rfl, rfl, by omega, ?_, ?_, ?_, ?_⟩
  · intro i hi
    dsimp only
    by_cases e : i = c
    · rw [if_pos e]; exact hj
    · rw [if_neg e]; exact h4 i (by omega)
  · intro i k hi hk e
    dsimp only at e
    by_cases e1 : i = c
    · by_cases e2 : k = c
      · rw [e1, e2]
      · rw [if_pos e1, if_neg e2] at e
        exact absurd e.symm (ne k (by omega))
    · by_cases e2 : k = c
      · rw [if_neg e1, if_pos e2] at e
        exact absurd e (ne i (by omega))
      · rw [if_neg e1, if_neg e2] at e
        exact h5 i k (by omega) (by omega) e
  · intro t ht
    by_cases e : t = j
    · subst e
      exact Or.inl ⟨pk_us, c, by omega, if_pos rfl⟩
    · rw [pk_un e]
      rcases h6 t ht with ⟨a, b⟩ | ⟨a, b⟩
      · exact Or.inl ⟨a, hin t b⟩
      · refine Or.inr ⟨a, ?_⟩
        intro hi
        obtain ⟨i, hi, ei⟩ := hi
        dsimp only at ei
        by_cases e1 : i = c
        · rw [if_pos e1] at ei
          exact e ei.symm
        · rw [if_neg e1] at ei
          exact b ⟨i, by omega, ei⟩
  · intro i hi
    dsimp only
    by_cases e : i = p
    · subst e
      rw [if_pos rfl, pk_us]
      exact ⟨rfl, c, by omega, if_pos rfl⟩
    · rw [if_neg e, pk_un e]
      exact ⟨(h7 i (by omega)).1, hin _ (h7 i (by omega)).2⟩
section
variable {fu ll dl nc bs hK hV ca pk ct wt lc sp ye yc rK rV : Int32} {Nk Na N2 C1 C2 C3 Nf bk cl ck cv mk wk rm gk gn ge gv gp gq yk yv : Nat → Int32}
theorem yw_mark {T c p : Nat} {q w : Nat → Nat} {k v : Int32} (H : sc_YS T mk wk lc wt c p q w) (hT : T ≤ 4096) (hk : k = 2 → ∃ j, j < T ∧ v = nI j) : ∃ mk' wk' lc' wt' c' p' q' w', sc_YS T mk' wk' lc' wt' c' p' q' w' ∧ sc_YX c p q w c' p' q' w' ∧ (k = 2 → ∃ j, j < T ∧ v = nI j ∧ sc_in c' q' j) ∧ (∀ i, i < c' → i < c ∨ (k = 2 ∧ v = nI (q' i))) ∧ ∀ post : SY → Prop, post (fu, ll, dl, nc, bs, hK, hV, ca, pk, ct, wt', lc', sp, ye, yc, rK, rV, Nk, Na, N2, C1, C2, C3, Nf, bk, cl, ck, cv, mk', wk', rm, gk, gn, ge, gv, gp, gq, yk, yv, 32768, 32768) → wpY_markValue post (fu, ll, dl, nc, bs, hK, hV, ca, pk, ct, wt, lc, sp, ye, yc, rK, rV, Nk, Na, N2, C1, C2, C3, Nf, bk, cl, ck, cv, mk, wk, rm, gk, gn, ge, gv, gp, gq, yk, yv, 32768, 32768) k v := by
  by_cases e : k = 2
  · obtain ⟨j, hj, ej⟩ := hk e
    subst ej
    rcases H.2.2.2.2.2.1 j hj with ⟨a, b⟩ | ⟨a, b⟩
    · refine ⟨mk, wk, lc, wt, c, p, q, w, H, sc_YX_r, fun _ => ⟨j, hj, rfl, b⟩, fun i hi => Or.inl hi, fun post h => ?_⟩
      exact br_t e (br_f (nI_pos (by omega)) (br_f (nI_ge (a := j) (b := 4096) (by omega) (by omega)) ⟨vp_in_nI (by omega) (by omega), br_f (by rw [nI_clamp (by omega), a]; decide) h⟩))
    · have H' := sc_YS_p H hj b
      have hc := sc_YS_b H'
      have h1 := H.1
      have h2 := H.2.1
      have h3 := H.2.2.1
      refine ⟨_, _, _, _, _, _, _, _, H', ⟨sc_ex_p, sc_ex_p, by omega, ?_⟩, fun _ => ⟨j, hj, rfl, c, by omega, if_pos rfl⟩, ?_, fun post h => ?_⟩
      · intro i hi
        by_cases ei : i = c
        · exact Or.inr ⟨p, by omega, by dsimp only; rw [if_pos rfl, if_pos ei]⟩
        · exact Or.inl (by omega)
      · intro i hi
        by_cases ei : i = c
        · exact Or.inr ⟨e, by rw [if_pos ei]⟩
        · exact Or.inl (by omega)
      · refine br_t e (br_f (nI_pos (by omega)) (br_f (nI_ge (a := j) (b := 4096) (by omega) (by omega)) ⟨vp_in_nI (by omega) (by omega), br_t (by rw [nI_clamp (by omega)]; exact a) ⟨vp_in_nI (by omega) (by omega), nm_r (e' := upd mk j 1) (by rw [nI_clamp (by omega), sc_nb1]) (nm_r (e' := nI (c + 1)) (by rw [h1, nI_1]) (br_f (by rw [h2]; exact nI_ge (a := p) (b := 4096) (by omega) (by omega)) ⟨pk_in p 4096 (by omega) h2, nm_r (e' := upd wk p (nI j)) (by rw [h2, nI_clamp (by omega)]) (nm_r (e' := nI (p + 1)) (by rw [h2, nI_1]) h)⟩))⟩⟩))
  · exact ⟨mk, wk, lc, wt, c, p, q, w, H, sc_YX_r, fun z => absurd z e, fun i hi => Or.inl hi, fun post h => br_f e h⟩
theorem yw_rowE {T c p : Nat} {q w : Nat → Nat} {m : Int32} (H : sc_YS T mk wk lc wt c p q w) (hT : T ≤ 4096) (hk : ∀ y, y < 8 → bt m y = true → yk y = 2 → ∃ j, j < T ∧ yv y = nI j) : ∃ mk' wk' lc' wt' c' p' q' w', sc_YS T mk' wk' lc' wt' c' p' q' w' ∧ sc_YX c p q w c' p' q' w' ∧ (∀ y, y < 8 → bt m y = true → yk y = 2 → ∃ j, j < T ∧ yv y = nI j ∧ sc_in c' q' j) ∧ (∀ i, i < c' → i < c ∨ ∃ y, y < 8 ∧ bt m y = true ∧ yk y = 2 ∧ yv y = nI (q' i)) ∧ ∀ post : SY → Prop, post (fu, ll, dl, nc, bs, hK, hV, ca, pk, ct, wt', lc', sp, ye, yc, rK, rV, Nk, Na, N2, C1, C2, C3, Nf, bk, cl, ck, cv, mk', wk', rm, gk, gn, ge, gv, gp, gq, yk, yv, 32768, 32768) → wpY_markEnv post (fu, ll, dl, nc, bs, hK, hV, ca, pk, ct, wt, lc, sp, ye, yc, rK, rV, Nk, Na, N2, C1, C2, C3, Nf, bk, cl, ck, cv, mk, wk, rm, gk, gn, ge, gv, gp, gq, yk, yv, 32768, 32768) m := by
  have L := sc_loop (P := SY → Prop) (S := (Nat → Int32) × (Nat → Int32) × Int32 × Int32) (fun o n i s => wY_markEnv_2 o m n (nI i) fu ll dl nc bs hK hV ca pk ct s.2.2.2 s.2.2.1 sp ye yc rK rV Nk Na N2 C1 C2 C3 Nf bk cl ck cv s.1 s.2.1 rm gk gn ge gv gp gq yk yv 32768 32768) (fun o s => o (fu, ll, dl, nc, bs, hK, hV, ca, pk, ct, s.2.2.2, s.2.2.1, sp, ye, yc, rK, rV, Nk, Na, N2, C1, C2, C3, Nf, bk, cl, ck, cv, s.1, s.2.1, rm, gk, gn, ge, gv, gp, gq, yk, yv, 32768, 32768)) (fun j s => ∃ c' p' q' w', sc_YS T s.1 s.2.1 s.2.2.1 s.2.2.2 c' p' q' w' ∧ sc_YX c p q w c' p' q' w' ∧ (∀ y, y < j → bt m y = true → yk y = 2 → ∃ j, j < T ∧ yv y = nI j ∧ sc_in c' q' j) ∧ (∀ i, i < c' → i < c ∨ ∃ y, y < 8 ∧ bt m y = true ∧ yk y = 2 ∧ yv y = nI (q' i))) 8 ?_ ?_ 8 0 (mk, wk, lc, wt) rfl ⟨c, p, q, w, H, sc_YX_r, fun y hy => absurd hy (Nat.not_lt_zero y), fun i hi => Or.inl hi⟩
  · obtain ⟨s', ⟨c', p', q', w', a1, a2, a3, a4⟩, KK⟩ := L
    exact ⟨_, _, _, _, c', p', q', w', a1, a2, a3, a4, fun post h => ⟨9, KK post 9 (by omega) h⟩⟩
  · intro o n s _ hp
    exact br_t (nI_le (a := 8) (b := 8) (by omega) (by omega)) hp
  · intro i s hi hI
    obtain ⟨c', p', q', w', a1, a2, a3, a4⟩ := hI
    cases hm : bt m i with
    | false =>
      refine ⟨s, ⟨c', p', q', w', a1, a2, ?_, a4⟩, fun o n h => br_f (nI_ge (a := i) (b := 8) (by omega) (by omega)) (br_t ((sc_bit m (by omega)).mpr hm) (nm_r (nI_1 i) h))⟩
      intro y hy hb
      by_cases e : y = i
      · rw [e, hm] at hb; cases hb
      · exact a3 y (by omega) hb
    | true =>
      obtain ⟨mk', wk', lc', wt', c2, p2, q2, w2, b1, b2, b3, b4, KK⟩ := yw_mark (fu := fu) (ll := ll) (dl := dl) (nc := nc) (bs := bs) (hK := hK) (hV := hV) (ca := ca) (pk := pk) (ct := ct) (sp := sp) (ye := ye) (yc := yc) (rK := rK) (rV := rV) (Nk := Nk) (Na := Na) (N2 := N2) (C1 := C1) (C2 := C2) (C3 := C3) (Nf := Nf) (bk := bk) (cl := cl) (ck := ck) (cv := cv) (rm := rm) (gk := gk) (gn := gn) (ge := ge) (gv := gv) (gp := gp) (gq := gq) (yk := yk) (yv := yv) a1 hT (hk i hi hm)
      refine ⟨(mk', wk', lc', wt'), ⟨c2, p2, q2, w2, b1, sc_YX_t a2 b2, ?_, ?_⟩, fun o n h => br_f (nI_ge (a := i) (b := 8) (by omega) (by omega)) (br_f (fun z => by rw [(sc_bit m (by omega)).mp z] at hm; cases hm) ⟨vp_in_nI (by omega) (by omega), vp_in_nI (by omega) (by omega), ?_⟩)⟩
      · intro y hy hb h2
        by_cases e : y = i
        · subst e
          exact b3 h2
        · obtain ⟨j, h3, h4, h5⟩ := a3 y (by omega) hb h2
          exact ⟨j, h3, h4, sc_ex_in b2.1 h5⟩
      · intro j hj
        rcases b4 j hj with h1 | ⟨h1, h2⟩
        · rw [b2.1.2 j h1]
          exact a4 j h1
        · exact Or.inr ⟨i, hi, hm, h1, h2⟩
      · rw [nI_clamp (n := i) (by omega)]
        exact KK _ (nm_r (nI_1 i) h)
theorem yw_rowD {T c p a : Nat} {q w : Nat → Nat} (H : sc_YS T mk wk lc wt c p q w) (hT : T ≤ 4096) (ha : a < T) (hk : ∀ y, y < 8 → ck (a * 8 + y) = 2 → ∃ j, j < T ∧ cv (a * 8 + y) = nI j) : ∃ mk' wk' lc' wt' c' p' q' w', sc_YS T mk' wk' lc' wt' c' p' q' w' ∧ sc_YX c p q w c' p' q' w' ∧ (∀ y, y < 8 → ck (a * 8 + y) = 2 → ∃ j, j < T ∧ cv (a * 8 + y) = nI j ∧ sc_in c' q' j) ∧ (∀ i, i < c' → i < c ∨ ∃ y, y < 8 ∧ ck (a * 8 + y) = 2 ∧ cv (a * 8 + y) = nI (q' i)) ∧ ∀ (post : SY → Prop) J2 x1 n, 8 < n → J2 (x1 + 1) fu ll dl nc bs hK hV ca pk ct wt' lc' sp ye yc rK rV Nk Na N2 C1 C2 C3 Nf bk cl ck cv mk' wk' rm gk gn ge gv gp gq yk yv 32768 32768 → wY_drain_38 post J2 x1 (nI a) n 0 fu ll dl nc bs hK hV ca pk ct wt lc sp ye yc rK rV Nk Na N2 C1 C2 C3 Nf bk cl ck cv mk wk rm gk gn ge gv gp gq yk yv 32768 32768 := by
  have L := sc_loop (P := (SY → Prop) × _ × Int32) (S := (Nat → Int32) × (Nat → Int32) × Int32 × Int32) (fun o n i s => wY_drain_38 o.1 o.2.1 o.2.2 (nI a) n (nI i) fu ll dl nc bs hK hV ca pk ct s.2.2.2 s.2.2.1 sp ye yc rK rV Nk Na N2 C1 C2 C3 Nf bk cl ck cv s.1 s.2.1 rm gk gn ge gv gp gq yk yv 32768 32768) (fun o s => o.2.1 (o.2.2 + 1) fu ll dl nc bs hK hV ca pk ct s.2.2.2 s.2.2.1 sp ye yc rK rV Nk Na N2 C1 C2 C3 Nf bk cl ck cv s.1 s.2.1 rm gk gn ge gv gp gq yk yv 32768 32768) (fun j s => ∃ c' p' q' w', sc_YS T s.1 s.2.1 s.2.2.1 s.2.2.2 c' p' q' w' ∧ sc_YX c p q w c' p' q' w' ∧ (∀ y, y < j → ck (a * 8 + y) = 2 → ∃ j, j < T ∧ cv (a * 8 + y) = nI j ∧ sc_in c' q' j) ∧ (∀ i, i < c' → i < c ∨ ∃ y, y < 8 ∧ ck (a * 8 + y) = 2 ∧ cv (a * 8 + y) = nI (q' i))) 8 ?_ ?_ 8 0 (mk, wk, lc, wt) rfl ⟨c, p, q, w, H, sc_YX_r, fun y hy => absurd hy (Nat.not_lt_zero y), fun i hi => Or.inl hi⟩
  · obtain ⟨s', ⟨c', p', q', w', a1, a2, a3, a4⟩, KK⟩ := L
    exact ⟨_, _, _, _, c', p', q', w', a1, a2, a3, a4, fun post J2 x1 n hn h => KK (post, J2, x1) n hn h⟩
  · intro o n s _ hp
    exact br_t (nI_le (a := 8) (b := 8) (by omega) (by omega)) (nm_e hp)
  · intro i s hi hI
    obtain ⟨c', p', q', w', a1, a2, a3, a4⟩ := hI
    obtain ⟨mk', wk', lc', wt', c2, p2, q2, w2, b1, b2, b3, b4, KK⟩ := yw_mark (fu := fu) (ll := ll) (dl := dl) (nc := nc) (bs := bs) (hK := hK) (hV := hV) (ca := ca) (pk := pk) (ct := ct) (sp := sp) (ye := ye) (yc := yc) (rK := rK) (rV := rV) (Nk := Nk) (Na := Na) (N2 := N2) (C1 := C1) (C2 := C2) (C3 := C3) (Nf := Nf) (bk := bk) (cl := cl) (ck := ck) (cv := cv) (rm := rm) (gk := gk) (gn := gn) (ge := ge) (gv := gv) (gp := gp) (gq := gq) (yk := yk) (yv := yv) a1 hT (hk i hi)
    refine ⟨(mk', wk', lc', wt'), ⟨c2, p2, q2, w2, b1, sc_YX_t a2 b2, ?_, ?_⟩, fun o n h => br_f (nI_ge (a := i) (b := 8) (by omega) (by omega)) (⟨pk_in (a * 8 + i) 32768 (by omega) (sc_a8 a i), pk_in (a * 8 + i) 32768 (by omega) (sc_a8 a i), ?_⟩)⟩
    · intro y hy h2
      by_cases e : y = i
      · subst e
        exact b3 h2
      · obtain ⟨j, h3, h4, h5⟩ := a3 y (by omega) h2
        exact ⟨j, h3, h4, sc_ex_in b2.1 h5⟩
    · intro j hj
      rcases b4 j hj with h1 | ⟨h1, h2⟩
      · rw [b2.1.2 j h1]
        exact a4 j h1
      · exact Or.inr ⟨i, hi, h1, h2⟩
    · rw [sc_c8 (i := a) (j := i) (by omega)]
      exact KK _ (nm_r (nI_1 i) h)
theorem yw_rowF {T c p b : Nat} {q w : Nat → Nat} {m : Int32} (H : sc_YS T mk wk lc wt c p q w) (hT : T ≤ 4096) (hb : b < 32) (hk : ∀ y, y < 8 → bt m y = true → ge (b * 8 + y) = 2 → ∃ j, j < T ∧ gv (b * 8 + y) = nI j) : ∃ mk' wk' lc' wt' c' p' q' w', sc_YS T mk' wk' lc' wt' c' p' q' w' ∧ sc_YX c p q w c' p' q' w' ∧ (∀ y, y < 8 → bt m y = true → ge (b * 8 + y) = 2 → ∃ j, j < T ∧ gv (b * 8 + y) = nI j ∧ sc_in c' q' j) ∧ (∀ i, i < c' → i < c ∨ ∃ y, y < 8 ∧ bt m y = true ∧ ge (b * 8 + y) = 2 ∧ gv (b * 8 + y) = nI (q' i)) ∧ ∀ (post : Int32 → SY → Prop) J2 n, 8 < n → J2 (nI (b + 1)) fu ll dl nc bs hK hV ca pk ct wt' lc' sp ye yc rK rV Nk Na N2 C1 C2 C3 Nf bk cl ck cv mk' wk' rm gk gn ge gv gp gq yk yv 32768 32768 → wY_endCheck_111 post J2 (nI b) m n 0 fu ll dl nc bs hK hV ca pk ct wt lc sp ye yc rK rV Nk Na N2 C1 C2 C3 Nf bk cl ck cv mk wk rm gk gn ge gv gp gq yk yv 32768 32768 := by
  have L := sc_loop (P := (Int32 → SY → Prop) × _) (S := (Nat → Int32) × (Nat → Int32) × Int32 × Int32) (fun o n i s => wY_endCheck_111 o.1 o.2 (nI b) m n (nI i) fu ll dl nc bs hK hV ca pk ct s.2.2.2 s.2.2.1 sp ye yc rK rV Nk Na N2 C1 C2 C3 Nf bk cl ck cv s.1 s.2.1 rm gk gn ge gv gp gq yk yv 32768 32768) (fun o s => o.2 (nI (b + 1)) fu ll dl nc bs hK hV ca pk ct s.2.2.2 s.2.2.1 sp ye yc rK rV Nk Na N2 C1 C2 C3 Nf bk cl ck cv s.1 s.2.1 rm gk gn ge gv gp gq yk yv 32768 32768) (fun j s => ∃ c' p' q' w', sc_YS T s.1 s.2.1 s.2.2.1 s.2.2.2 c' p' q' w' ∧ sc_YX c p q w c' p' q' w' ∧ (∀ y, y < j → bt m y = true → ge (b * 8 + y) = 2 → ∃ j, j < T ∧ gv (b * 8 + y) = nI j ∧ sc_in c' q' j) ∧ (∀ i, i < c' → i < c ∨ ∃ y, y < 8 ∧ bt m y = true ∧ ge (b * 8 + y) = 2 ∧ gv (b * 8 + y) = nI (q' i))) 8 ?_ ?_ 8 0 (mk, wk, lc, wt) rfl ⟨c, p, q, w, H, sc_YX_r, fun y hy => absurd hy (Nat.not_lt_zero y), fun i hi => Or.inl hi⟩
  · obtain ⟨s', ⟨c', p', q', w', a1, a2, a3, a4⟩, KK⟩ := L
    exact ⟨_, _, _, _, c', p', q', w', a1, a2, a3, a4, fun post J2 n hn h => KK (post, J2) n hn h⟩
  · intro o n s _ hp
    exact br_t (nI_le (a := 8) (b := 8) (by omega) (by omega)) (nm_r (nI_1 b) hp)
  · intro i s hi hI
    obtain ⟨c', p', q', w', a1, a2, a3, a4⟩ := hI
    cases hm : bt m i with
    | false =>
      refine ⟨s, ⟨c', p', q', w', a1, a2, ?_, a4⟩, fun o n h => br_f (nI_ge (a := i) (b := 8) (by omega) (by omega)) (br_t ((sc_bit m (by omega)).mpr hm) (nm_r (nI_1 i) h))⟩
      intro y hy hb
      by_cases e : y = i
      · rw [e, hm] at hb; cases hb
      · exact a3 y (by omega) hb
    | true =>
      obtain ⟨mk', wk', lc', wt', c2, p2, q2, w2, b1, b2, b3, b4, KK⟩ := yw_mark (fu := fu) (ll := ll) (dl := dl) (nc := nc) (bs := bs) (hK := hK) (hV := hV) (ca := ca) (pk := pk) (ct := ct) (sp := sp) (ye := ye) (yc := yc) (rK := rK) (rV := rV) (Nk := Nk) (Na := Na) (N2 := N2) (C1 := C1) (C2 := C2) (C3 := C3) (Nf := Nf) (bk := bk) (cl := cl) (ck := ck) (cv := cv) (rm := rm) (gk := gk) (gn := gn) (ge := ge) (gv := gv) (gp := gp) (gq := gq) (yk := yk) (yv := yv) a1 hT (hk i hi hm)
      refine ⟨(mk', wk', lc', wt'), ⟨c2, p2, q2, w2, b1, sc_YX_t a2 b2, ?_, ?_⟩, fun o n h => br_f (nI_ge (a := i) (b := 8) (by omega) (by omega)) (br_f (fun z => by rw [(sc_bit m (by omega)).mp z] at hm; cases hm) ⟨pk_in (b * 8 + i) 256 (by omega) (sc_a8 b i), pk_in (b * 8 + i) 256 (by omega) (sc_a8 b i), ?_⟩)⟩
      · intro y hy hb h2
        by_cases e : y = i
        · subst e
          exact b3 h2
        · obtain ⟨j, h3, h4, h5⟩ := a3 y (by omega) hb h2
          exact ⟨j, h3, h4, sc_ex_in b2.1 h5⟩
      · intro j hj
        rcases b4 j hj with h1 | ⟨h1, h2⟩
        · rw [b2.1.2 j h1]
          exact a4 j h1
        · exact Or.inr ⟨i, hi, hm, h1, h2⟩
      · rw [sc_c8 (i := b) (j := i) (by omega)]
        exact KK _ (nm_r (nI_1 i) h)
end
