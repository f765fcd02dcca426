/-! ===== the component's live check ===== -/
def sc_in (c : Nat) (q : Nat → Nat) (s : Nat) : Prop := ∃ i, i < c ∧ q i = s
def sc_ex (c : Nat) (q : Nat → Nat) (c' : Nat) (q' : Nat → Nat) : Prop := c ≤ c' ∧ ∀ i, i < c → q' i = q i
theorem sc_ex_r {c : Nat} {q : Nat → Nat} : sc_ex c q c q := ⟨Nat.le_refl c, fun _ _ => rfl⟩
theorem sc_ex_t {c c' c'' : Nat} {q q' q'' : Nat → Nat} (h : sc_ex c q c' q') (h' : sc_ex c' q' c'' q'') : sc_ex c q c'' q'' := ⟨Nat.le_trans h.1 h'.1, fun i hi => (h'.2 i (Nat.lt_of_lt_of_le hi h.1)).trans (h.2 i hi)⟩
theorem sc_ex_in {c c' s : Nat} {q q' : Nat → Nat} (h : sc_ex c q c' q') (hs : sc_in c q s) : sc_in c' q' s := by
  obtain ⟨i, hi, e⟩ := hs
  exact ⟨i, Nat.lt_of_lt_of_le hi h.1, (h.2 i hi).trans e⟩
/-- the slots reached so far: c of them, listed by q -/
def sc_XS (iu rs : Nat → Int32) (rc : Int32) (c : Nat) (q : Nat → Nat) : Prop := rc = nI c ∧ (∀ i, i < c → q i < 34 ∧ rs i = nI (q i)) ∧ (∀ i j, i < c → j < c → q i = q j → i = j) ∧ ∀ s, s < 34 → (iu s = 1 ∧ sc_in c q s) ∨ (iu s = 0 ∧ ¬ sc_in c q s)
theorem sc_XS_b {iu rs : Nat → Int32} {rc : Int32} {c : Nat} {q : Nat → Nat} (h : sc_XS iu rs rc c q) : c ≤ 34 := by
  refine sc_pig (T := fun i j => q i = j) (fun i hi => ⟨q i, (h.2.1 i hi).1, rfl⟩) ?_
  intro i k j hi hk a b
  exact h.2.2.1 i k hi hk (a.trans b.symm)
theorem sc_XS_p {iu rs : Nat → Int32} {rc : Int32} {c s : Nat} {q : Nat → Nat} (h : sc_XS iu rs rc c q) (hs : s < 34) (hn : ¬ sc_in c q s) : sc_XS (upd iu s 1) (upd rs c (nI s)) (nI (c + 1)) (c + 1) (fun i => if i = c then s else q i) := by
  obtain ⟨_, h2, h3, h4⟩ := h
  have ne : ∀ i, i < c → q i ≠ s := fun i hi e => hn ⟨i, hi, e⟩
  refine ⟨rfl, ?_, ?_, ?_⟩
  · intro i hi
    dsimp only
    by_cases e : i = c
    · subst e
      rw [if_pos rfl, pk_us]
      exact ⟨hs, rfl⟩
    · rw [if_neg e, pk_un e]
      exact h2 i (by omega)
  · intro i j hi hj e
    dsimp only at e
    by_cases e1 : i = c
    · by_cases e2 : j = c
      · rw [e1, e2]
      · rw [if_pos e1, if_neg e2] at e
        exact absurd e.symm (ne j (by omega))
    · by_cases e2 : j = c
      · rw [if_neg e1, if_pos e2] at e
        exact absurd e (ne i (by omega))
      · rw [if_neg e1, if_neg e2] at e
        exact h3 i j (by omega) (by omega) e
  · intro t ht
    by_cases e : t = s
    · subst e
      exact Or.inl ⟨pk_us, c, by omega, if_pos rfl⟩
    · rw [pk_un e]
      rcases h4 t ht with ⟨a, i, hi, ei⟩ | ⟨a, b⟩
      · exact Or.inl ⟨a, i, by omega, by dsimp only; rw [if_neg (by omega)]; exact ei⟩
      · refine Or.inr ⟨a, ?_⟩
        intro hin
        obtain ⟨i, hi, ei⟩ := hin
        dsimp only at ei
        by_cases e1 : i = c
        · rw [if_pos e1] at ei
          exact e ei.symm
        · rw [if_neg e1] at ei
          exact b ⟨i, by omega, ei⟩
theorem sc_ex_p {c s : Nat} {q : Nat → Nat} : sc_ex c q (c + 1) (fun i => if i = c then s else q i) := ⟨by omega, fun i hi => if_neg (by omega)⟩
section
variable {fu ll dl nc ss hk hv ca pk st ev cu ec va vc dp rc : Int32} {nk nl n2 k1 k2 k3 nf sk en fk fn fl fm iu sl sw sm rs : Nat → Int32}
theorem xw_reach {c s : Nat} {q : Nat → Nat} (H : sc_XS iu rs rc c q) (hs : s < 34) : ∃ iu' rs' rc' c' q', sc_XS iu' rs' rc' c' q' ∧ sc_ex c q c' q' ∧ sc_in c' q' s ∧ (∀ i, i < c' → i < c ∨ q' i = s) ∧ ∀ post : SX → Prop, post (fu, ll, dl, nc, ss, hk, hv, ca, pk, st, ev, cu, ec, va, vc, dp, rc', nk, nl, n2, k1, k2, k3, nf, sk, en, fk, fn, fl, fm, iu', sl, sw, sm, rs') → wpX_reach post (fu, ll, dl, nc, ss, hk, hv, ca, pk, st, ev, cu, ec, va, vc, dp, rc, nk, nl, n2, k1, k2, k3, nf, sk, en, fk, fn, fl, fm, iu, sl, sw, sm, rs) (nI s) := by
  rcases H.2.2.2 s hs with ⟨a, b⟩ | ⟨a, b⟩
  · refine ⟨iu, rs, rc, c, q, H, sc_ex_r, b, fun i hi => Or.inl hi, fun post h => ?_⟩
    exact ⟨vp_in_nI hs (by omega), br_f (by rw [nI_clamp (by omega), a]; decide) h⟩
  · have H' := sc_XS_p H hs b
    have hc := sc_XS_b H'
    refine ⟨_, _, _, _, _, H', sc_ex_p, ⟨c, by omega, if_pos rfl⟩, fun i hi => ?_, fun post h => ?_⟩
    · by_cases e : i = c
      · exact Or.inr (if_pos e)
      · exact Or.inl (by omega)
    · obtain ⟨hr, _⟩ := H
      refine ⟨vp_in_nI hs (by omega), br_t (by rw [nI_clamp (by omega)]; exact a) ⟨vp_in_nI hs (by omega), nm_r (e' := upd iu s 1) (by rw [nI_clamp (by omega), sc_nb1]) ⟨pk_in c 34 (by omega) hr, ?_⟩⟩⟩
      exact nm_r (e' := upd rs c (nI s)) (by rw [hr, nI_clamp (by omega)]) (nm_r (e' := nI (c + 1)) (by rw [hr, nI_1]) h)
theorem xw_rrF {c b : Nat} {q : Nat → Nat} {m : Int32} (H : sc_XS iu rs rc c q) (hb : b + 8 ≤ 256) (hr : ∀ y, y < 8 → bt m y = true → ∃ s, s < 34 ∧ fl (b + y) = nI s) : ∃ iu' rs' rc' c' q', sc_XS iu' rs' rc' c' q' ∧ sc_ex c q c' q' ∧ (∀ y, y < 8 → bt m y = true → ∃ s, s < 34 ∧ fl (b + y) = nI s ∧ sc_in c' q' s) ∧ (∀ i, i < c' → i < c ∨ ∃ y, y < 8 ∧ bt m y = true ∧ fl (b + y) = nI (q' i)) ∧ ∀ post : SX → Prop, post (fu, ll, dl, nc, ss, hk, hv, ca, pk, st, ev, cu, ec, va, vc, dp, rc', nk, nl, n2, k1, k2, k3, nf, sk, en, fk, fn, fl, fm, iu', sl, sw, sm, rs') → wpX_reachRow__frameValues post (fu, ll, dl, nc, ss, hk, hv, ca, pk, st, ev, cu, ec, va, vc, dp, rc, nk, nl, n2, k1, k2, k3, nf, sk, en, fk, fn, fl, fm, iu, sl, sw, sm, rs) (nI b) m := by
  have L := sc_loop (P := SX → Prop) (S := (Nat → Int32) × (Nat → Int32) × Int32) (fun p n i s => wX_reachRow__frameValues_3 p (nI b) m n (nI i) fu ll dl nc ss hk hv ca pk st ev cu ec va vc dp s.2.2 nk nl n2 k1 k2 k3 nf sk en fk fn fl fm s.1 sl sw sm s.2.1) (fun p s => p (fu, ll, dl, nc, ss, hk, hv, ca, pk, st, ev, cu, ec, va, vc, dp, s.2.2, nk, nl, n2, k1, k2, k3, nf, sk, en, fk, fn, fl, fm, s.1, sl, sw, sm, s.2.1)) (fun j s => ∃ c' q', sc_XS s.1 s.2.1 s.2.2 c' q' ∧ sc_ex c q c' q' ∧ (∀ y, y < j → bt m y = true → ∃ t, t < 34 ∧ fl (b + y) = nI t ∧ sc_in c' q' t) ∧ (∀ i, i < c' → i < c ∨ ∃ y, y < 8 ∧ bt m y = true ∧ fl (b + y) = nI (q' i))) 8 ?_ ?_ 8 0 (iu, rs, rc) rfl ⟨c, q, H, sc_ex_r, fun y hy => absurd hy (Nat.not_lt_zero y), fun i hi => Or.inl hi⟩
  · obtain ⟨s', ⟨c', q', a1, a2, a3, a4⟩, K⟩ := L
    exact ⟨_, _, _, c', q', a1, a2, a3, a4, fun post h => ⟨9, K post 9 (by omega) h⟩⟩
  · intro p n s _ hp
    exact br_t (nI_le (a := 8) (b := 8) (by omega) (by omega)) hp
  · intro i s hi hI
    obtain ⟨c', q', a1, a2, a3, a4⟩ := hI
    cases hm : bt m i with
    | false =>
      refine ⟨s, ⟨c', q', a1, a2, ?_, a4⟩, fun p n h => br_f (nI_ge (a := i) (b := 8) (by omega) (by omega)) (br_t ((sc_bit m (by omega)).mpr hm) (nm_r (nI_1 i) h))⟩
      intro y hy hb'
      by_cases e : y = i
      · rw [e, hm] at hb'; cases hb'
      · exact a3 y (by omega) hb'
    | true =>
      obtain ⟨t, ht, et⟩ := hr i hi hm
      obtain ⟨iu', rs', rc', c2, q2, b1, b2, b3, b4, K⟩ := xw_reach (fu := fu) (ll := ll) (dl := dl) (nc := nc) (ss := ss) (hk := hk) (hv := hv) (ca := ca) (pk := pk) (st := st) (ev := ev) (cu := cu) (ec := ec) (va := va) (vc := vc) (dp := dp) (nk := nk) (nl := nl) (n2 := n2) (k1 := k1) (k2 := k2) (k3 := k3) (nf := nf) (sk := sk) (en := en) (fk := fk) (fn := fn) (fl := fl) (fm := fm) (sl := sl) (sw := sw) (sm := sm) a1 ht
      refine ⟨(iu', rs', rc'), ⟨c2, q2, b1, sc_ex_t a2 b2, ?_, ?_⟩, fun p n h => br_f (nI_ge (a := i) (b := 8) (by omega) (by omega)) (br_f (fun z => by rw [(sc_bit m (by omega)).mp z] at hm; cases hm) ⟨pk_in (b + i) 256 (by omega) (nI_add b i), ?_⟩)⟩
      · intro y hy hb'
        by_cases e : y = i
        · subst e
          exact ⟨t, ht, et, b3⟩
        · obtain ⟨t', h1, h2, h3⟩ := a3 y (by omega) hb'
          exact ⟨t', h1, h2, sc_ex_in b2 h3⟩
      · intro j hj
        rcases b4 j hj with h1 | h1
        · rw [b2.2 j h1]
          exact a4 j h1
        · exact Or.inr ⟨i, hi, hm, by rw [h1]; exact et⟩
      · rw [show fl (nI b + nI i).toNatClampNeg = nI t from by rw [sc_ad (by omega)]; exact et]
        exact K _ (nm_r (nI_1 i) h)
theorem xw_rrS {c b : Nat} {q : Nat → Nat} {m : Int32} (H : sc_XS iu rs rc c q) (hb : b + 8 ≤ 272) (hr : ∀ y, y < 8 → bt m y = true → ∃ s, s < 34 ∧ sw (b + y) = nI s) : ∃ iu' rs' rc' c' q', sc_XS iu' rs' rc' c' q' ∧ sc_ex c q c' q' ∧ (∀ y, y < 8 → bt m y = true → ∃ s, s < 34 ∧ sw (b + y) = nI s ∧ sc_in c' q' s) ∧ (∀ i, i < c' → i < c ∨ ∃ y, y < 8 ∧ bt m y = true ∧ sw (b + y) = nI (q' i)) ∧ ∀ post : SX → Prop, post (fu, ll, dl, nc, ss, hk, hv, ca, pk, st, ev, cu, ec, va, vc, dp, rc', nk, nl, n2, k1, k2, k3, nf, sk, en, fk, fn, fl, fm, iu', sl, sw, sm, rs') → wpX_reachRow__slotValues post (fu, ll, dl, nc, ss, hk, hv, ca, pk, st, ev, cu, ec, va, vc, dp, rc, nk, nl, n2, k1, k2, k3, nf, sk, en, fk, fn, fl, fm, iu, sl, sw, sm, rs) (nI b) m := by
  have L := sc_loop (P := SX → Prop) (S := (Nat → Int32) × (Nat → Int32) × Int32) (fun p n i s => wX_reachRow__slotValues_3 p (nI b) m n (nI i) fu ll dl nc ss hk hv ca pk st ev cu ec va vc dp s.2.2 nk nl n2 k1 k2 k3 nf sk en fk fn fl fm s.1 sl sw sm s.2.1) (fun p s => p (fu, ll, dl, nc, ss, hk, hv, ca, pk, st, ev, cu, ec, va, vc, dp, s.2.2, nk, nl, n2, k1, k2, k3, nf, sk, en, fk, fn, fl, fm, s.1, sl, sw, sm, s.2.1)) (fun j s => ∃ c' q', sc_XS s.1 s.2.1 s.2.2 c' q' ∧ sc_ex c q c' q' ∧ (∀ y, y < j → bt m y = true → ∃ t, t < 34 ∧ sw (b + y) = nI t ∧ sc_in c' q' t) ∧ (∀ i, i < c' → i < c ∨ ∃ y, y < 8 ∧ bt m y = true ∧ sw (b + y) = nI (q' i))) 8 ?_ ?_ 8 0 (iu, rs, rc) rfl ⟨c, q, H, sc_ex_r, fun y hy => absurd hy (Nat.not_lt_zero y), fun i hi => Or.inl hi⟩
  · obtain ⟨s', ⟨c', q', a1, a2, a3, a4⟩, K⟩ := L
    exact ⟨_, _, _, c', q', a1, a2, a3, a4, fun post h => ⟨9, K post 9 (by omega) h⟩⟩
  · intro p n s _ hp
    exact br_t (nI_le (a := 8) (b := 8) (by omega) (by omega)) hp
  · intro i s hi hI
    obtain ⟨c', q', a1, a2, a3, a4⟩ := hI
    cases hm : bt m i with
    | false =>
      refine ⟨s, ⟨c', q', a1, a2, ?_, a4⟩, fun p n h => br_f (nI_ge (a := i) (b := 8) (by omega) (by omega)) (br_t ((sc_bit m (by omega)).mpr hm) (nm_r (nI_1 i) h))⟩
      intro y hy hb'
      by_cases e : y = i
      · rw [e, hm] at hb'; cases hb'
      · exact a3 y (by omega) hb'
    | true =>
      obtain ⟨t, ht, et⟩ := hr i hi hm
      obtain ⟨iu', rs', rc', c2, q2, b1, b2, b3, b4, K⟩ := xw_reach (fu := fu) (ll := ll) (dl := dl) (nc := nc) (ss := ss) (hk := hk) (hv := hv) (ca := ca) (pk := pk) (st := st) (ev := ev) (cu := cu) (ec := ec) (va := va) (vc := vc) (dp := dp) (nk := nk) (nl := nl) (n2 := n2) (k1 := k1) (k2 := k2) (k3 := k3) (nf := nf) (sk := sk) (en := en) (fk := fk) (fn := fn) (fl := fl) (fm := fm) (sl := sl) (sw := sw) (sm := sm) a1 ht
      refine ⟨(iu', rs', rc'), ⟨c2, q2, b1, sc_ex_t a2 b2, ?_, ?_⟩, fun p n h => br_f (nI_ge (a := i) (b := 8) (by omega) (by omega)) (br_f (fun z => by rw [(sc_bit m (by omega)).mp z] at hm; cases hm) ⟨pk_in (b + i) 272 (by omega) (nI_add b i), ?_⟩)⟩
      · intro y hy hb'
        by_cases e : y = i
        · subst e
          exact ⟨t, ht, et, b3⟩
        · obtain ⟨t', h1, h2, h3⟩ := a3 y (by omega) hb'
          exact ⟨t', h1, h2, sc_ex_in b2 h3⟩
      · intro j hj
        rcases b4 j hj with h1 | h1
        · rw [b2.2 j h1]
          exact a4 j h1
        · exact Or.inr ⟨i, hi, hm, by rw [h1]; exact et⟩
      · rw [show sw (nI b + nI i).toNatClampNeg = nI t from by rw [sc_ad (by omega)]; exact et]
        exact K _ (nm_r (nI_1 i) h)
theorem xw_rrE {c b : Nat} {q : Nat → Nat} {m : Int32} (H : sc_XS iu rs rc c q) (hb : b + 8 ≤ 8) (hr : ∀ y, y < 8 → bt m y = true → ∃ s, s < 34 ∧ en (b + y) = nI s) : ∃ iu' rs' rc' c' q', sc_XS iu' rs' rc' c' q' ∧ sc_ex c q c' q' ∧ (∀ y, y < 8 → bt m y = true → ∃ s, s < 34 ∧ en (b + y) = nI s ∧ sc_in c' q' s) ∧ (∀ i, i < c' → i < c ∨ ∃ y, y < 8 ∧ bt m y = true ∧ en (b + y) = nI (q' i)) ∧ ∀ post : SX → Prop, post (fu, ll, dl, nc, ss, hk, hv, ca, pk, st, ev, cu, ec, va, vc, dp, rc', nk, nl, n2, k1, k2, k3, nf, sk, en, fk, fn, fl, fm, iu', sl, sw, sm, rs') → wpX_reachRow__env post (fu, ll, dl, nc, ss, hk, hv, ca, pk, st, ev, cu, ec, va, vc, dp, rc, nk, nl, n2, k1, k2, k3, nf, sk, en, fk, fn, fl, fm, iu, sl, sw, sm, rs) (nI b) m := by
  have L := sc_loop (P := SX → Prop) (S := (Nat → Int32) × (Nat → Int32) × Int32) (fun p n i s => wX_reachRow__env_3 p (nI b) m n (nI i) fu ll dl nc ss hk hv ca pk st ev cu ec va vc dp s.2.2 nk nl n2 k1 k2 k3 nf sk en fk fn fl fm s.1 sl sw sm s.2.1) (fun p s => p (fu, ll, dl, nc, ss, hk, hv, ca, pk, st, ev, cu, ec, va, vc, dp, s.2.2, nk, nl, n2, k1, k2, k3, nf, sk, en, fk, fn, fl, fm, s.1, sl, sw, sm, s.2.1)) (fun j s => ∃ c' q', sc_XS s.1 s.2.1 s.2.2 c' q' ∧ sc_ex c q c' q' ∧ (∀ y, y < j → bt m y = true → ∃ t, t < 34 ∧ en (b + y) = nI t ∧ sc_in c' q' t) ∧ (∀ i, i < c' → i < c ∨ ∃ y, y < 8 ∧ bt m y = true ∧ en (b + y) = nI (q' i))) 8 ?_ ?_ 8 0 (iu, rs, rc) rfl ⟨c, q, H, sc_ex_r, fun y hy => absurd hy (Nat.not_lt_zero y), fun i hi => Or.inl hi⟩
  · obtain ⟨s', ⟨c', q', a1, a2, a3, a4⟩, K⟩ := L
    exact ⟨_, _, _, c', q', a1, a2, a3, a4, fun post h => ⟨9, K post 9 (by omega) h⟩⟩
  · intro p n s _ hp
    exact br_t (nI_le (a := 8) (b := 8) (by omega) (by omega)) hp
  · intro i s hi hI
    obtain ⟨c', q', a1, a2, a3, a4⟩ := hI
    cases hm : bt m i with
    | false =>
      refine ⟨s, ⟨c', q', a1, a2, ?_, a4⟩, fun p n h => br_f (nI_ge (a := i) (b := 8) (by omega) (by omega)) (br_t ((sc_bit m (by omega)).mpr hm) (nm_r (nI_1 i) h))⟩
      intro y hy hb'
      by_cases e : y = i
      · rw [e, hm] at hb'; cases hb'
      · exact a3 y (by omega) hb'
    | true =>
      obtain ⟨t, ht, et⟩ := hr i hi hm
      obtain ⟨iu', rs', rc', c2, q2, b1, b2, b3, b4, K⟩ := xw_reach (fu := fu) (ll := ll) (dl := dl) (nc := nc) (ss := ss) (hk := hk) (hv := hv) (ca := ca) (pk := pk) (st := st) (ev := ev) (cu := cu) (ec := ec) (va := va) (vc := vc) (dp := dp) (nk := nk) (nl := nl) (n2 := n2) (k1 := k1) (k2 := k2) (k3 := k3) (nf := nf) (sk := sk) (en := en) (fk := fk) (fn := fn) (fl := fl) (fm := fm) (sl := sl) (sw := sw) (sm := sm) a1 ht
      refine ⟨(iu', rs', rc'), ⟨c2, q2, b1, sc_ex_t a2 b2, ?_, ?_⟩, fun p n h => br_f (nI_ge (a := i) (b := 8) (by omega) (by omega)) (br_f (fun z => by rw [(sc_bit m (by omega)).mp z] at hm; cases hm) ⟨pk_in (b + i) 8 (by omega) (nI_add b i), ?_⟩)⟩
      · intro y hy hb'
        by_cases e : y = i
        · subst e
          exact ⟨t, ht, et, b3⟩
        · obtain ⟨t', h1, h2, h3⟩ := a3 y (by omega) hb'
          exact ⟨t', h1, h2, sc_ex_in b2 h3⟩
      · intro j hj
        rcases b4 j hj with h1 | h1
        · rw [b2.2 j h1]
          exact a4 j h1
        · exact Or.inr ⟨i, hi, hm, by rw [h1]; exact et⟩
      · rw [show en (nI b + nI i).toNatClampNeg = nI t from by rw [sc_ad (by omega)]; exact et]
        exact K _ (nm_r (nI_1 i) h)
theorem xw_ckF {c d : Nat} {q : Nat → Nat} {P : Nat → Prop} (H : sc_XS iu rs rc c q) (hd : d ≤ 32) (hr : ∀ i, i < d → ∀ y, y < 8 → bt (fm i) y = true → ∃ s, s < 34 ∧ fl (i * 8 + y) = nI s) (hP : ∀ i, i < c → P (q i)) (hF : ∀ i s, i < d → sc_FR fl fm i s → P s) : ∃ iu' rs' rc' c' q', sc_XS iu' rs' rc' c' q' ∧ sc_ex c q c' q' ∧ (∀ i, i < c' → P (q' i)) ∧ (∀ i s, i < d → sc_FR fl fm i s → sc_in c' q' s) ∧ ∀ (post : SX → Prop) n, d < n → (∃ n86, wX_checkLive_86 post n86 0 fu ll dl nc ss hk hv ca pk st ev cu ec va vc (nI d) rc' nk nl n2 k1 k2 k3 nf sk en fk fn fl fm iu' sl sw sm rs') → wX_checkLive_52 post n 0 fu ll dl nc ss hk hv ca pk st ev cu ec va vc (nI d) rc nk nl n2 k1 k2 k3 nf sk en fk fn fl fm iu sl sw sm rs := by
  have L := sc_loop (P := SX → Prop) (S := (Nat → Int32) × (Nat → Int32) × Int32) (fun p n i s => wX_checkLive_52 p n (nI i) fu ll dl nc ss hk hv ca pk st ev cu ec va vc (nI d) s.2.2 nk nl n2 k1 k2 k3 nf sk en fk fn fl fm s.1 sl sw sm s.2.1) (fun p s => ∃ n86, wX_checkLive_86 p n86 0 fu ll dl nc ss hk hv ca pk st ev cu ec va vc (nI d) s.2.2 nk nl n2 k1 k2 k3 nf sk en fk fn fl fm s.1 sl sw sm s.2.1) (fun j s => ∃ c' q', sc_XS s.1 s.2.1 s.2.2 c' q' ∧ sc_ex c q c' q' ∧ (∀ i, i < c' → P (q' i)) ∧ (∀ i t, i < j → sc_FR fl fm i t → sc_in c' q' t)) d ?_ ?_ d 0 (iu, rs, rc) (Nat.zero_add d) ⟨c, q, H, sc_ex_r, hP, fun i t hi => absurd hi (Nat.not_lt_zero i)⟩
  · obtain ⟨s', ⟨c', q', a1, a2, a3, a4⟩, K⟩ := L
    exact ⟨_, _, _, c', q', a1, a2, a3, a4, fun post n hn h => K post n hn h⟩
  · intro p n s _ hp
    exact br_t (nI_le (a := d) (b := d) (by omega) (by omega)) hp
  · intro i s hi hI
    obtain ⟨c', q', a1, a2, a3, a4⟩ := hI
    obtain ⟨iu', rs', rc', c2, q2, b1, b2, b3, b4, K⟩ := xw_rrF (fu := fu) (ll := ll) (dl := dl) (nc := nc) (ss := ss) (hk := hk) (hv := hv) (ca := ca) (pk := pk) (st := st) (ev := ev) (cu := cu) (ec := ec) (va := va) (vc := vc) (dp := nI d) (nk := nk) (nl := nl) (n2 := n2) (k1 := k1) (k2 := k2) (k3 := k3) (nf := nf) (sk := sk) (en := en) (fk := fk) (fn := fn) (fl := fl) (fm := fm) (sl := sl) (sw := sw) (sm := sm) (b := i * 8) (m := fm i) a1 (by omega) (hr i hi)
    refine ⟨(iu', rs', rc'), ⟨c2, q2, b1, sc_ex_t a2 b2, ?_, ?_⟩, fun p n h => br_f (nI_ge (a := i) (b := d) (by omega) (by omega)) ⟨vp_in_nI (by omega) (by omega), ?_⟩⟩
    · intro j hj
      rcases b4 j hj with h1 | ⟨y, hy, hb, e⟩
      · rw [b2.2 j h1]
        exact a3 j h1
      · exact hF i _ hi ⟨(b1.2.1 j hj).1, y, hy, hb, e⟩
    · intro j t hj ht
      by_cases e : j = i
      · subst e
        obtain ⟨h34, y, hy, hb, ev⟩ := ht
        obtain ⟨t', h1, h2, h3⟩ := b3 y hy hb
        have : t = t' := sc_nIi (ev.symm.trans h2) (by omega) (by omega)
        exact this ▸ h3
      · exact sc_ex_in b2 (a4 j t (by omega) ht)
    · rw [sc_m8, nI_clamp (n := i) (by omega)]
      exact K _ (nm_r (nI_1 i) h)
theorem xw_ckB {V : Nat → Prop} (hV : ∀ s t, V s → sc_EX sw sm s t → V t) (hE : ∀ s, V s → ∀ y, y < 8 → bt (sm s) y = true → ∃ t, t < 34 ∧ sw (s * 8 + y) = nI t) : ∀ (d k : Nat) (iu rs : Nat → Int32) (rc : Int32) (c : Nat) (q : Nat → Nat), k + d = 34 → k ≤ c → sc_XS iu rs rc c q → (∀ i, i < c → V (q i)) → (∀ i t, i < k → sc_EX sw sm (q i) t → sc_in c q t) → ∃ iu' rs' rc' c' q', sc_XS iu' rs' rc' c' q' ∧ sc_ex c q c' q' ∧ (∀ i, i < c' → V (q' i)) ∧ (∀ i t, i < c' → sc_EX sw sm (q' i) t → sc_in c' q' t) ∧ ∀ (post : SX → Prop) n, d < n → wX_checkLive_131 post fu ll dl nc ss hk hv ca pk st ev cu ec va vc dp rc' nk nl n2 k1 k2 k3 nf sk en fk fn fl fm iu' sl sw sm rs' → wX_checkLive_86 post n (nI k) fu ll dl nc ss hk hv ca pk st ev cu ec va vc dp rc nk nl n2 k1 k2 k3 nf sk en fk fn fl fm iu sl sw sm rs := by
  intro d
  induction d with
  | zero =>
    intro k iu rs rc c q hkd hkc H hq hcl
    have hc := sc_XS_b H
    refine ⟨iu, rs, rc, c, q, H, sc_ex_r, hq, fun i t hi => hcl i t (by omega), fun post n hn h => ?_⟩
    obtain ⟨m, rfl⟩ : ∃ m, n = m + 1 := ⟨n - 1, by omega⟩
    have : k = 34 := by omega
    subst this
    exact br_t (nI_le (a := 34) (b := 34) (by omega) (by omega)) h
  | succ d ih =>
    intro k iu rs rc c q hkd hkc H hq hcl
    have hc := sc_XS_b H
    have hrc := H.1
    by_cases hck : c ≤ k
    · refine ⟨iu, rs, rc, c, q, H, sc_ex_r, hq, fun i t hi => hcl i t (by omega), fun post n hn h => ?_⟩
      obtain ⟨m, rfl⟩ : ∃ m, n = m + 1 := ⟨n - 1, by omega⟩
      exact br_f (nI_ge (a := k) (b := 34) (by omega) (by omega)) (br_t (by rw [hrc]; exact nI_le hck (by omega)) h)
    · have hkq := H.2.1 k (by omega)
      obtain ⟨iu', rs', rc', c2, q2, b1, b2, b3, b4, K⟩ := xw_rrS (fu := fu) (ll := ll) (dl := dl) (nc := nc) (ss := ss) (hk := hk) (hv := hv) (ca := ca) (pk := pk) (st := st) (ev := ev) (cu := cu) (ec := ec) (va := va) (vc := vc) (dp := dp) (nk := nk) (nl := nl) (n2 := n2) (k1 := k1) (k2 := k2) (k3 := k3) (nf := nf) (sk := sk) (en := en) (fk := fk) (fn := fn) (fl := fl) (fm := fm) (sl := sl) (sw := sw) (sm := sm) (b := q k * 8) (m := sm (q k)) H (by omega) (hE (q k) (hq k (by omega)))
      obtain ⟨iu3, rs3, rc3, c3, q3, d1, d2, d3, d4, K3⟩ := ih (k + 1) iu' rs' rc' c2 q2 (by omega) (by have := b2.1; omega) b1 (by
        intro i hi
        rcases b4 i hi with h1 | ⟨y, hy, hb, e⟩
        · rw [b2.2 i h1]
          exact hq i h1
        · exact hV (q k) _ (hq k (by omega)) ⟨(b1.2.1 i hi).1, y, hy, hb, e⟩) (by
        intro i t hi ht
        by_cases e : i = k
        · subst e
          rw [b2.2 i (by omega)] at ht
          obtain ⟨h34, y, hy, hb, ev⟩ := ht
          obtain ⟨t', h1, h2, h3⟩ := b3 y hy hb
          have : t = t' := sc_nIi (ev.symm.trans h2) (by omega) (by omega)
          exact this ▸ h3
        · rw [b2.2 i (by omega)] at ht
          exact sc_ex_in b2 (hcl i t (by omega) ht))
      refine ⟨iu3, rs3, rc3, c3, q3, d1, sc_ex_t b2 d2, d3, d4, fun post n hn h => ?_⟩
      obtain ⟨m, rfl⟩ : ∃ m, n = m + 1 := ⟨n - 1, by omega⟩
      refine br_f (nI_ge (a := k) (b := 34) (by omega) (by omega)) (br_f (by rw [hrc]; exact nI_ge (by omega) (by omega)) ⟨vp_in_nI (by omega) (by omega), nm_r (e' := nI (q k)) (by rw [nI_clamp (by omega)]; exact hkq.2) ⟨vp_in_nI hkq.1 (by omega), ?_⟩⟩)
      rw [sc_m8, nI_clamp (n := q k) (by omega)]
      exact K _ (nm_r (nI_1 k) (K3 post m (by omega) h))
/-- from the roots of the state to the end of the check -/
theorem xw_ckT {c d L P : Nat} {q : Nat → Nat} {V : Nat → Prop} (H : sc_XS iu rs rc c q) (hd : d ≤ 32) (hL : L < 2 ^ 31) (hp : P < 2 ^ 31) (hr : ∀ i, i < d → ∀ y, y < 8 → bt (fm i) y = true → ∃ s, s < 34 ∧ fl (i * 8 + y) = nI s) (hq : ∀ i, i < c → V (q i)) (hF : ∀ i s, i < d → sc_FR fl fm i s → V s) (hV : ∀ s t, V s → sc_EX sw sm s t → V t) (hE : ∀ s, V s → ∀ y, y < 8 → bt (sm s) y = true → ∃ t, t < 34 ∧ sw (s * 8 + y) = nI t) : ∃ iu' rs' rc' c' q', sc_XS iu' rs' rc' c' q' ∧ sc_ex c q c' q' ∧ (∀ i, i < c' → V (q' i)) ∧ (∀ i s, i < d → sc_FR fl fm i s → sc_in c' q' s) ∧ (∀ i t, i < c' → sc_EX sw sm (q' i) t → sc_in c' q' t) ∧ ∀ (post : SX → Prop), post (fu, nI L, dl, nc, ss, hk, hv, ca, nI (if c' ≤ P then P else c'), if c' ≤ L then st else 6, ev, cu, ec, va, vc, nI d, rc', nk, nl, n2, k1, k2, k3, nf, sk, en, fk, fn, fl, fm, iu', sl, sw, sm, rs') → ∃ n52, wX_checkLive_52 post n52 0 fu (nI L) dl nc ss hk hv ca (nI P) st ev cu ec va vc (nI d) rc nk nl n2 k1 k2 k3 nf sk en fk fn fl fm iu sl sw sm rs := by
  obtain ⟨iu1, rs1, rc1, c1, q1, a1, a2, a3, a4, K1⟩ := xw_ckF (fu := fu) (ll := nI L) (dl := dl) (nc := nc) (ss := ss) (hk := hk) (hv := hv) (ca := ca) (pk := nI P) (st := st) (ev := ev) (cu := cu) (ec := ec) (va := va) (vc := vc) (nk := nk) (nl := nl) (n2 := n2) (k1 := k1) (k2 := k2) (k3 := k3) (nf := nf) (sk := sk) (en := en) (fk := fk) (fn := fn) (fl := fl) (fm := fm) (sl := sl) (sw := sw) (sm := sm) H hd hr hq hF
  obtain ⟨iu2, rs2, rc2, c2, q2, b1, b2, b3, b4, K2⟩ := xw_ckB (fu := fu) (ll := nI L) (dl := dl) (nc := nc) (ss := ss) (hk := hk) (hv := hv) (ca := ca) (pk := nI P) (st := st) (ev := ev) (cu := cu) (ec := ec) (va := va) (vc := vc) (dp := nI d) (nk := nk) (nl := nl) (n2 := n2) (k1 := k1) (k2 := k2) (k3 := k3) (nf := nf) (sk := sk) (en := en) (fk := fk) (fn := fn) (fl := fl) (fm := fm) (sl := sl) (sw := sw) (sm := sm) hV hE 34 0 iu1 rs1 rc1 c1 q1 rfl (Nat.zero_le _) a1 a3 (fun i t hi => absurd hi (Nat.not_lt_zero i))
  have hc := sc_XS_b b1
  have hrc := b1.1
  refine ⟨iu2, rs2, rc2, c2, q2, b1, sc_ex_t a2 b2, b3, fun i s hi hs => sc_ex_in b2 (a4 i s hi hs), b4, fun post h => ⟨d + 1, K1 post (d + 1) (by omega) ⟨35, K2 post 35 (by omega) ?_⟩⟩⟩
  refine pk_le c2 P (fun h1 => pk_le c2 L (fun h2 => ?_) (fun h2 => ?_) hrc) (fun h1 => pk_le c2 L (fun h2 => ?_) (fun h2 => ?_) hrc) hrc
  · rw [if_pos h1, if_pos h2] at h; exact h
  · rw [if_pos h1, if_neg (by omega)] at h; exact h
  · rw [if_neg (by omega), if_pos h2, ← hrc] at h; exact h
  · rw [if_neg (by omega), if_neg (by omega), ← hrc] at h; exact h
/-- the whole check: what is in use behind it is what is reached -/
def sc_RX (SR : Nat → Prop) (fl fm : Nat → Int32) (d s : Nat) : Prop := SR s ∨ ∃ i, i < d ∧ sc_FR fl fm i s
theorem sc_XS0 {q : Nat → Nat} : sc_XS (sc_wr iu 0 (fun _ => 0) 34) rs 0 0 q := by
  refine ⟨rfl, fun i hi => absurd hi (Nat.not_lt_zero i), fun i j hi => absurd hi (Nat.not_lt_zero i), fun s hs => Or.inr ⟨sc_wr_z hs, ?_⟩⟩
  intro h
  obtain ⟨i, hi, _⟩ := h
  exact absurd hi (Nat.not_lt_zero i)
theorem xw_all {c d : Nat} {q : Nat → Nat} {SR : Nat → Prop} (a1 : ∀ i, i < c → sc_rc (sc_RX SR fl fm d) (sc_EX sw sm) (q i)) (a2 : ∀ s, SR s → sc_in c q s) (a3 : ∀ i s, i < d → sc_FR fl fm i s → sc_in c q s) (a4 : ∀ i t, i < c → sc_EX sw sm (q i) t → sc_in c q t) : ∀ s, sc_in c q s ↔ sc_rc (sc_RX SR fl fm d) (sc_EX sw sm) s := by
  intro s
  constructor
  · intro h
    obtain ⟨i, hi, rfl⟩ := h
    exact a1 i hi
  · intro h
    refine h (sc_in c q) ?_ ?_
    · intro a ha
      rcases ha with ha | ⟨i, hi, ha⟩
      · exact a2 a ha
      · exact a3 i a hi ha
    · intro a b ha e
      obtain ⟨i, hi, rfl⟩ := ha
      exact a4 i b hi e
theorem xw_checkR {d L P s0 : Nat} (hd : d ≤ 32) (hL : L < 2 ^ 31) (hp : P < 2 ^ 31) (h0 : s0 < 34) (hr : ∀ i, i < d → ∀ y, y < 8 → bt (fm i) y = true → ∃ s, s < 34 ∧ fl (i * 8 + y) = nI s) (hE : ∀ s, sc_rc (sc_RX (fun s => s = s0) fl fm d) (sc_EX sw sm) s → ∀ y, y < 8 → bt (sm s) y = true → ∃ t, t < 34 ∧ sw (s * 8 + y) = nI t) : ∃ iu' rs' rc' c' q', sc_XS iu' rs' rc' c' q' ∧ (∀ s, sc_in c' q' s ↔ sc_rc (sc_RX (fun s => s = s0) fl fm d) (sc_EX sw sm) s) ∧ ∀ (post : SX → Prop), post (fu, nI L, dl, nc, ss, hk, hv, ca, nI (if c' ≤ P then P else c'), if c' ≤ L then st else 6, 0, cu, ec, nI s0, vc, nI d, rc', nk, nl, n2, k1, k2, k3, nf, sk, en, fk, fn, fl, fm, iu', sl, sw, sm, rs') → wpX_checkLive post (fu, nI L, dl, nc, ss, hk, hv, ca, nI P, st, 0, cu, ec, nI s0, vc, nI d, rc, nk, nl, n2, k1, k2, k3, nf, sk, en, fk, fn, fl, fm, iu, sl, sw, sm, rs) := by
  obtain ⟨iu1, rs1, rc1, c1, q1, a1, a2, a3, a4, K1⟩ := xw_reach (fu := fu) (ll := nI L) (dl := dl) (nc := nc) (ss := ss) (hk := hk) (hv := hv) (ca := ca) (pk := nI P) (st := st) (ev := 0) (cu := cu) (ec := ec) (va := nI s0) (vc := vc) (dp := nI d) (nk := nk) (nl := nl) (n2 := n2) (k1 := k1) (k2 := k2) (k3 := k3) (nf := nf) (sk := sk) (en := en) (fk := fk) (fn := fn) (fl := fl) (fm := fm) (sl := sl) (sw := sw) (sm := sm) (sc_XS0 (iu := iu) (rs := rs) (q := fun i => i)) h0
  obtain ⟨iu2, rs2, rc2, c2, q2, b1, b2, b3, b4, b5, K2⟩ := xw_ckT (V := sc_rc (sc_RX (fun s => s = s0) fl fm d) (sc_EX sw sm)) (fu := fu) (dl := dl) (nc := nc) (ss := ss) (hk := hk) (hv := hv) (ca := ca) (st := st) (ev := 0) (cu := cu) (ec := ec) (va := nI s0) (vc := vc) (nk := nk) (nl := nl) (n2 := n2) (k1 := k1) (k2 := k2) (k3 := k3) (nf := nf) (sk := sk) (en := en) (fk := fk) (fn := fn) (fl := fl) (fm := fm) (sl := sl) (sw := sw) (sm := sm) (L := L) (P := P) a1 hd hL hp hr (by
    intro i hi
    rcases a4 i hi with h | h
    · exact absurd h (Nat.not_lt_zero i)
    · exact sc_rc_r (Or.inl h)) (fun i s hi hs => sc_rc_r (Or.inr ⟨i, hi, hs⟩)) (fun s t hs e => sc_rc_e hs e) hE
  refine ⟨iu2, rs2, rc2, c2, q2, b1, xw_all b3 (fun s hs => sc_ex_in b2 (hs ▸ a3)) b4 b5, fun post h => ?_⟩
  unfold wpX_checkLive
  refine xw_free ?_
  exact br_t rfl (K1 _ (K2 post h))
theorem xw_checkE {d L P n : Nat} (hd : d ≤ 32) (hL : L < 2 ^ 31) (hp : P < 2 ^ 31) (hn : n < 32) (hs : ∀ y, y < 8 → bt (ec &&& nf n) y = true → ∃ s, s < 34 ∧ en y = nI s) (hr : ∀ i, i < d → ∀ y, y < 8 → bt (fm i) y = true → ∃ s, s < 34 ∧ fl (i * 8 + y) = nI s) (hE : ∀ s, sc_rc (sc_RX (fun s => s < 34 ∧ ∃ y, y < 8 ∧ bt (ec &&& nf n) y = true ∧ en y = nI s) fl fm d) (sc_EX sw sm) s → ∀ y, y < 8 → bt (sm s) y = true → ∃ t, t < 34 ∧ sw (s * 8 + y) = nI t) : ∃ iu' rs' rc' c' q', sc_XS iu' rs' rc' c' q' ∧ (∀ s, sc_in c' q' s ↔ sc_rc (sc_RX (fun s => s < 34 ∧ ∃ y, y < 8 ∧ bt (ec &&& nf n) y = true ∧ en y = nI s) fl fm d) (sc_EX sw sm) s) ∧ ∀ (post : SX → Prop), post (fu, nI L, dl, nc, ss, hk, hv, ca, nI (if c' ≤ P then P else c'), if c' ≤ L then st else 6, 1, nI n, ec, va, vc, nI d, rc', nk, nl, n2, k1, k2, k3, nf, sk, en, fk, fn, fl, fm, iu', sl, sw, sm, rs') → wpX_checkLive post (fu, nI L, dl, nc, ss, hk, hv, ca, nI P, st, 1, nI n, ec, va, vc, nI d, rc, nk, nl, n2, k1, k2, k3, nf, sk, en, fk, fn, fl, fm, iu, sl, sw, sm, rs) := by
  obtain ⟨iu1, rs1, rc1, c1, q1, a1, a2, a3, a4, K1⟩ := xw_rrE (fu := fu) (ll := nI L) (dl := dl) (nc := nc) (ss := ss) (hk := hk) (hv := hv) (ca := ca) (pk := nI P) (st := st) (ev := 1) (cu := nI n) (ec := ec) (va := va) (vc := vc) (dp := nI d) (nk := nk) (nl := nl) (n2 := n2) (k1 := k1) (k2 := k2) (k3 := k3) (nf := nf) (sk := sk) (en := en) (fk := fk) (fn := fn) (fl := fl) (fm := fm) (sl := sl) (sw := sw) (sm := sm) (b := 0) (m := ec &&& nf n) (sc_XS0 (iu := iu) (rs := rs) (q := fun i => i)) (by omega) (by intro y hy hb; rw [Nat.zero_add]; exact hs y hy hb)
  obtain ⟨iu2, rs2, rc2, c2, q2, b1, b2, b3, b4, b5, K2⟩ := xw_ckT (V := sc_rc (sc_RX (fun s => s < 34 ∧ ∃ y, y < 8 ∧ bt (ec &&& nf n) y = true ∧ en y = nI s) fl fm d) (sc_EX sw sm)) (fu := fu) (dl := dl) (nc := nc) (ss := ss) (hk := hk) (hv := hv) (ca := ca) (st := st) (ev := 1) (cu := nI n) (ec := ec) (va := va) (vc := vc) (nk := nk) (nl := nl) (n2 := n2) (k1 := k1) (k2 := k2) (k3 := k3) (nf := nf) (sk := sk) (en := en) (fk := fk) (fn := fn) (fl := fl) (fm := fm) (sl := sl) (sw := sw) (sm := sm) (L := L) (P := P) a1 hd hL hp hr (by
    intro i hi
    rcases a4 i hi with h | ⟨y, hy, hb, e⟩
    · exact absurd h (Nat.not_lt_zero i)
    · rw [Nat.zero_add] at e
      exact sc_rc_r (Or.inl ⟨(a1.2.1 i hi).1, y, hy, hb, e⟩)) (fun i s hi hs => sc_rc_r (Or.inr ⟨i, hi, hs⟩)) (fun s t hs e => sc_rc_e hs e) hE
  refine ⟨iu2, rs2, rc2, c2, q2, b1, xw_all b3 ?_ b4 b5, fun post h => ?_⟩
  · intro s hs'
    obtain ⟨h34, y, hy, hb, e⟩ := hs'
    obtain ⟨t, h1, h2, h3⟩ := a3 y hy hb
    rw [Nat.zero_add] at h2
    have : s = t := sc_nIi (e.symm.trans h2) (by omega) (by omega)
    exact sc_ex_in b2 (this ▸ h3)
  · unfold wpX_checkLive
    refine xw_free ?_
    refine br_f (by decide) ⟨vp_in_nI hn (by omega), ?_⟩
    rw [nI_clamp (n := n) (by omega)]
    exact K1 _ (K2 post h)
end
