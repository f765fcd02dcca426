/-! ===== the reference's compaction ===== -/
/-- how many of mk are set below i -/
def sc_ct (mk : Nat → Int32) : Nat → Nat
  | 0 => 0
  | i + 1 => sc_ct mk i + (if mk i = 0 then 0 else 1)
theorem sc_ct_le (mk : Nat → Int32) : ∀ i, sc_ct mk i ≤ i := by
  intro i
  induction i with
  | zero => exact Nat.le_refl 0
  | succ i ih =>
    show sc_ct mk i + (if mk i = 0 then 0 else 1) ≤ i + 1
    split <;> omega
theorem sc_ct_m (mk : Nat → Int32) {k : Nat} : ∀ i, k ≤ i → sc_ct mk k ≤ sc_ct mk i := by
  intro i
  induction i with
  | zero =>
    intro h
    have : k = 0 := by omega
    subst this
    exact Nat.le_refl _
  | succ i ih =>
    intro h
    show sc_ct mk k ≤ sc_ct mk i + (if mk i = 0 then 0 else 1)
    by_cases e : k = i + 1
    · subst e
      exact Nat.le_refl _
    · have := ih (by omega)
      split <;> omega
theorem sc_ct_s {mk : Nat → Int32} {i : Nat} (h : ¬ mk i = 0) : sc_ct mk (i + 1) = sc_ct mk i + 1 := by
  show sc_ct mk i + (if mk i = 0 then 0 else 1) = _
  rw [if_neg h]
theorem sc_ct_z {mk : Nat → Int32} {i : Nat} (h : mk i = 0) : sc_ct mk (i + 1) = sc_ct mk i := by
  show sc_ct mk i + (if mk i = 0 then 0 else 1) = _
  rw [if_pos h]
  rfl
theorem sc_ct_l {mk : Nat → Int32} {k i : Nat} (h : ¬ mk k = 0) (hk : k < i) : sc_ct mk k < sc_ct mk i := by
  have := sc_ct_m mk i (show k + 1 ≤ i from hk)
  rw [sc_ct_s h] at this
  omega
theorem sc_ct_i {mk : Nat → Int32} {k i : Nat} (h : ¬ mk k = 0) (h' : ¬ mk i = 0) (e : sc_ct mk k = sc_ct mk i) : k = i := by
  rcases Nat.lt_trichotomy k i with z | z | z
  · have := sc_ct_l h z
    omega
  · exact z
  · have := sc_ct_l h' z
    omega
theorem sc_ct_in {mk : Nat → Int32} : ∀ {T r : Nat}, r < sc_ct mk T → ∃ k, k < T ∧ ¬ mk k = 0 ∧ sc_ct mk k = r := by
  intro T
  induction T with
  | zero => intro r h; exact absurd h (Nat.not_lt_zero r)
  | succ T ih =>
    intro r h
    by_cases z : mk T = 0
    · rw [sc_ct_z z] at h
      obtain ⟨k, h1, h2⟩ := ih h
      exact ⟨k, by omega, h2⟩
    · rw [sc_ct_s z] at h
      by_cases e : r = sc_ct mk T
      · exact ⟨T, by omega, z, e.symm⟩
      · obtain ⟨k, h1, h2⟩ := ih (show r < sc_ct mk T by omega)
        exact ⟨k, by omega, h2⟩
theorem sc_wr_k {a : Nat → Int32} {b i : Nat} {f : Nat → Int32} (h : f i = a (b + i)) : sc_wr a b f i = sc_wr a b f (i + 1) := by
  funext j
  unfold sc_wr
  by_cases e : j = b + i
  · subst e
    rw [if_neg (by omega), if_pos (by omega), ← h]
    exact congrArg f (by omega)
  · by_cases z : b ≤ j ∧ j < b + i
    · rw [if_pos z, if_pos (by omega)]
    · rw [if_neg z, if_neg (by omega)]
/-- a reference to a closure after it has moved -/
def sc_tr (rm ck cv : Nat → Int32) (p : Nat) : Int32 := if ck p = 2 ∧ ¬ cv p < 0 ∧ ¬ 4096 ≤ cv p then rm (cv p).toNatClampNeg else cv p
section
variable {fu ll dl nc bs hK hV ca pk ct wt lc sp ye yc rK rV : Int32} {Nk Na N2 C1 C2 C3 Nf bk cl ck cv mk wk rm gk gn ge gv gp gq yk yv : Nat → Int32}
theorem yw_cp {post : SY → Prop} {J21 : Int32 → Int32 → (Nat → Int32) → (Nat → Int32) → (Nat → Int32) → (Nat → Int32) → (Nat → Int32) → (Nat → Int32) → (Nat → Int32) → (Nat → Int32) → (Nat → Int32) → (Nat → Int32) → (Nat → Int32) → (Nat → Int32) → (Nat → Int32) → (Nat → Int32) → (Nat → Int32) → (Nat → Int32) → (Nat → Int32) → (Nat → Int32) → (Nat → Int32) → (Nat → Int32) → (Nat → Int32) → (Nat → Int32) → Prop} {i j : Nat} (hi : i < 4096) (hj : j ≤ i) (h : J21 (nI (j + 1)) (nI (i + 1)) Nk Na N2 C1 C2 C3 Nf bk cl (sc_wr ck (j * 8) (fun y => ck (i * 8 + y)) 8) (sc_wr cv (j * 8) (fun y => cv (i * 8 + y)) 8) mk wk rm gk gn ge gv gp gq yk yv) : ∀ d t, t + d = 8 → wY_compact_59 post J21 (nI j) (nI i) fu ll dl nc bs hK hV ca pk ct wt lc sp ye yc rK rV 32768 32768 (d + 1) (nI t) Nk Na N2 C1 C2 C3 Nf bk cl (sc_wr ck (j * 8) (fun y => ck (i * 8 + y)) t) (sc_wr cv (j * 8) (fun y => cv (i * 8 + y)) t) mk wk rm gk gn ge gv gp gq yk yv := by
  have rd : ∀ (a : Nat → Int32) (t : Nat), t < 8 → sc_wr a (j * 8) (fun y => a (i * 8 + y)) t (i * 8 + t) = a (i * 8 + t) := fun a t ht => sc_wr_o (by omega)
  intro d
  induction d with
  | zero =>
    intro t ht
    have : t = 8 := by omega
    subst this
    exact br_t (nI_le (a := 8) (b := 8) (by omega) (by omega)) (nm_r (nI_1 j) (nm_r (nI_1 i) h))
  | succ d ih =>
    intro t ht
    refine br_f (nI_ge (a := t) (b := 8) (by omega) (by omega)) ⟨pk_in (i * 8 + t) 32768 (by omega) (sc_a8 i t), pk_in (j * 8 + t) 32768 (by omega) (sc_a8 j t), ?_⟩
    refine nm_r (e' := sc_wr ck (j * 8) (fun y => ck (i * 8 + y)) (t + 1)) (sc_wr_u (sc_c8 (by omega)) (by rw [sc_c8 (by omega)]; exact rd ck t (by omega))) ⟨pk_in (i * 8 + t) 32768 (by omega) (sc_a8 i t), pk_in (j * 8 + t) 32768 (by omega) (sc_a8 j t), ?_⟩
    refine nm_r (e' := sc_wr cv (j * 8) (fun y => cv (i * 8 + y)) (t + 1)) (sc_wr_u (sc_c8 (by omega)) (by rw [sc_c8 (by omega)]; exact rd cv t (by omega))) ?_
    exact nm_r (nI_1 t) (ih (t + 1) (by omega))
theorem yw_mv {T : Nat} (hT : T ≤ 4096) : ∃ rm' cl' ck' cv', (∀ k, k < T → ¬ mk k = 0 → rm' k = nI (sc_ct mk k) ∧ cl' (sc_ct mk k) = cl k ∧ ∀ y, y < 8 → ck' (sc_ct mk k * 8 + y) = ck (k * 8 + y) ∧ cv' (sc_ct mk k * 8 + y) = cv (k * 8 + y)) ∧ ∀ (post : SY → Prop) n, T < n → (∃ n126, wY_compact_126 post (nI (sc_ct mk T)) fu ll dl nc bs hK hV ca pk (nI T) wt lc sp ye yc rK rV 32768 32768 n126 0 Nk Na N2 C1 C2 C3 Nf bk cl' ck' cv' mk wk rm' gk gn ge gv gp gq yk yv) → wY_compact_21 post fu ll dl nc bs hK hV ca pk (nI T) wt lc sp ye yc rK rV 32768 32768 n 0 0 Nk Na N2 C1 C2 C3 Nf bk cl ck cv mk wk rm gk gn ge gv gp gq yk yv := by
  have L := sc_loop (P := SY → Prop) (S := (Nat → Int32) × (Nat → Int32) × (Nat → Int32) × (Nat → Int32)) (fun o n i s => wY_compact_21 o fu ll dl nc bs hK hV ca pk (nI T) wt lc sp ye yc rK rV 32768 32768 n (nI (sc_ct mk i)) (nI i) Nk Na N2 C1 C2 C3 Nf bk s.2.1 s.2.2.1 s.2.2.2 mk wk s.1 gk gn ge gv gp gq yk yv) (fun o s => ∃ n126, wY_compact_126 o (nI (sc_ct mk T)) fu ll dl nc bs hK hV ca pk (nI T) wt lc sp ye yc rK rV 32768 32768 n126 0 Nk Na N2 C1 C2 C3 Nf bk s.2.1 s.2.2.1 s.2.2.2 mk wk s.1 gk gn ge gv gp gq yk yv) (fun i s => (∀ k, k < i → ¬ mk k = 0 → s.1 k = nI (sc_ct mk k) ∧ s.2.1 (sc_ct mk k) = cl k ∧ ∀ y, y < 8 → s.2.2.1 (sc_ct mk k * 8 + y) = ck (k * 8 + y) ∧ s.2.2.2 (sc_ct mk k * 8 + y) = cv (k * 8 + y)) ∧ ∀ k, i ≤ k → s.2.1 k = cl k ∧ ∀ y, y < 8 → s.2.2.1 (k * 8 + y) = ck (k * 8 + y) ∧ s.2.2.2 (k * 8 + y) = cv (k * 8 + y)) T ?_ ?_ T 0 (rm, cl, ck, cv) (Nat.zero_add T) ⟨fun k hk => absurd hk (Nat.not_lt_zero k), fun k _ => ⟨rfl, fun y _ => ⟨rfl, rfl⟩⟩⟩
  · obtain ⟨s', ⟨a1, _⟩, K⟩ := L
    exact ⟨_, _, _, _, a1, fun post n hn h => K post n hn h⟩
  · intro o n s _ hp
    exact br_t (nI_le (a := T) (b := T) (by omega) (by omega)) hp
  · intro i s hi hI
    obtain ⟨a1, a2⟩ := hI
    have hci := sc_ct_le mk i
    by_cases z : mk i = 0
    · refine ⟨s, ⟨fun k hk hm => ?_, fun k hk => a2 k (by omega)⟩, fun o n h => br_f (nI_ge (a := i) (b := T) hi (by omega)) ⟨vp_in_nI (by omega) (by omega), br_t (by rw [nI_clamp (by omega)]; exact z) (nm_r (nI_1 i) ?_)⟩⟩
      · by_cases e : k = i
        · subst e
          exact absurd z hm
        · exact a1 k (by omega) hm
      · rw [sc_ct_z z] at h
        exact h
    · obtain ⟨b1, b2⟩ := a2 i (Nat.le_refl i)
      refine ⟨(upd s.1 i (nI (sc_ct mk i)), upd s.2.1 (sc_ct mk i) (s.2.1 i), sc_wr s.2.2.1 (sc_ct mk i * 8) (fun y => s.2.2.1 (i * 8 + y)) 8, sc_wr s.2.2.2 (sc_ct mk i * 8) (fun y => s.2.2.2 (i * 8 + y)) 8), ⟨fun k hk hm => ?_, fun k hk => ?_⟩, fun o n h => br_f (nI_ge (a := i) (b := T) hi (by omega)) ⟨vp_in_nI (by omega) (by omega), br_f (by rw [nI_clamp (by omega)]; exact z) ⟨vp_in_nI (by omega) (by omega), nm_r (e' := upd s.1 i (nI (sc_ct mk i))) (by rw [nI_clamp (by omega)]) ⟨vp_in_nI (by omega) (by omega), vp_in_nI (by omega) (by omega), nm_r (e' := upd s.2.1 (sc_ct mk i) (s.2.1 i)) (by rw [nI_clamp (n := sc_ct mk i) (by omega), nI_clamp (n := i) (by omega)]) ⟨9, ?_⟩⟩⟩⟩⟩
      · dsimp only
        by_cases e : k = i
        · subst e
          rw [pk_us, pk_us]
          refine ⟨rfl, b1, fun y hy => ?_⟩
          rw [sc_wr_i hy, sc_wr_i hy]
          exact b2 y hy
        · have hlt := sc_ct_l hm (show k < i by omega)
          obtain ⟨c1, c2, c3⟩ := a1 k (by omega) hm
          rw [pk_un e, pk_un (by omega)]
          refine ⟨c1, c2, fun y hy => ?_⟩
          rw [sc_wr_r (by omega) hy, sc_wr_r (by omega) hy]
          exact c3 y hy
      · dsimp only
        obtain ⟨c1, c2⟩ := a2 k (by omega)
        rw [pk_un (by omega)]
        refine ⟨c1, fun y hy => ?_⟩
        rw [sc_wr_r (by omega) hy, sc_wr_r (by omega) hy]
        exact c2 y hy
      · have K := yw_cp (post := o) (J21 := wY_compact_21 o fu ll dl nc bs hK hV ca pk (nI T) wt lc sp ye yc rK rV 32768 32768 n) (fu := fu) (ll := ll) (dl := dl) (nc := nc) (bs := bs) (hK := hK) (hV := hV) (ca := ca) (pk := pk) (ct := nI T) (wt := wt) (lc := lc) (sp := sp) (ye := ye) (yc := yc) (rK := rK) (rV := rV) (Nk := Nk) (Na := Na) (N2 := N2) (C1 := C1) (C2 := C2) (C3 := C3) (Nf := Nf) (bk := bk) (cl := upd s.2.1 (sc_ct mk i) (s.2.1 i)) (ck := s.2.2.1) (cv := s.2.2.2) (mk := mk) (wk := wk) (rm := upd s.1 i (nI (sc_ct mk i))) (gk := gk) (gn := gn) (ge := ge) (gv := gv) (gp := gp) (gq := gq) (yk := yk) (yv := yv) (i := i) (j := sc_ct mk i) (by omega) hci (by rw [sc_ct_s z] at h; exact h) 8 0 (by omega)
        rw [sc_wr0, sc_wr0] at K
        exact K
theorem yw_tr8 {post : SY → Prop} {J126 : Int32 → (Nat → Int32) → (Nat → Int32) → (Nat → Int32) → (Nat → Int32) → (Nat → Int32) → (Nat → Int32) → (Nat → Int32) → (Nat → Int32) → (Nat → Int32) → (Nat → Int32) → (Nat → Int32) → (Nat → Int32) → (Nat → Int32) → (Nat → Int32) → (Nat → Int32) → (Nat → Int32) → (Nat → Int32) → (Nat → Int32) → (Nat → Int32) → (Nat → Int32) → (Nat → Int32) → (Nat → Int32) → Prop} {x1 : Int32} {i : Nat} (hi : i < 4096) (h : J126 (nI (i + 1)) Nk Na N2 C1 C2 C3 Nf bk cl ck (sc_wr cv 0 (sc_tr rm ck cv) (i * 8 + 8)) mk wk rm gk gn ge gv gp gq yk yv) : ∀ d t, t + d = 8 → wY_compact_133 post J126 x1 (nI i) fu ll dl nc bs hK hV ca pk ct wt lc sp ye yc rK rV 32768 32768 (d + 1) (nI t) Nk Na N2 C1 C2 C3 Nf bk cl ck (sc_wr cv 0 (sc_tr rm ck cv) (i * 8 + t)) mk wk rm gk gn ge gv gp gq yk yv := by
  intro d
  induction d with
  | zero =>
    intro t ht
    have : t = 8 := by omega
    subst this
    exact br_t (nI_le (a := 8) (b := 8) (by omega) (by omega)) (nm_r (nI_1 i) h)
  | succ d ih =>
    intro t ht
    have ih' := ih (t + 1) (by omega)
    have ep : (nI (i * 8 + t)).toNatClampNeg = i * 8 + t := nI_clamp (by omega)
    have vp : vp_in (nI (i * 8 + t)) 32768 := vp_in_nI (by omega) (by omega)
    have er : sc_wr cv 0 (sc_tr rm ck cv) (i * 8 + t) (i * 8 + t) = cv (i * 8 + t) := sc_wr_o (by omega)
    have keep : ¬ (ck (i * 8 + t) = 2 ∧ ¬ cv (i * 8 + t) < 0 ∧ ¬ 4096 ≤ cv (i * 8 + t)) → sc_wr cv 0 (sc_tr rm ck cv) (i * 8 + t) = sc_wr cv 0 (sc_tr rm ck cv) (i * 8 + (t + 1)) := by
      intro hn
      refine sc_wr_k ?_
      rw [Nat.zero_add]
      exact if_neg hn
    refine br_f (nI_ge (a := t) (b := 8) (by omega) (by omega)) (nm_r (sc_a8 i t) ⟨vp, ?_⟩)
    rw [ep, er]
    by_cases c2 : ck (i * 8 + t) = 2
    · refine br_t c2 ⟨vp, ?_⟩
      by_cases c0 : cv (i * 8 + t) < 0
      · refine br_t c0 (nm_r (nI_1 t) ?_)
        rw [keep (fun z => z.2.1 c0)]
        exact ih'
      · refine br_f c0 ⟨vp, ?_⟩
        by_cases c4 : 4096 ≤ cv (i * 8 + t)
        · refine br_t c4 (nm_r (nI_1 t) ?_)
          rw [keep (fun z => z.2.2 c4)]
          exact ih'
        · refine br_f c4 ⟨vp, ?_, vp, ?_⟩
          · rcases pk_ix (cv (i * 8 + t)) (n := 4096) (by omega) with z | z | ⟨j, hj, e⟩
            · exact absurd z c0
            · exact absurd z c4
            · rw [e]
              exact vp_in_nI hj (by omega)
          · refine nm_r (e' := sc_wr cv 0 (sc_tr rm ck cv) (i * 8 + (t + 1))) (sc_wr_u (by rw [Nat.zero_add]) (if_pos ⟨c2, c0, c4⟩).symm) ?_
            exact nm_r (nI_1 t) ih'
    · refine br_f c2 (nm_r (nI_1 t) ?_)
      rw [keep (fun z => c2 z.1)]
      exact ih'
theorem yw_tr {post : SY → Prop} {J h0 : Nat} (hJ : J ≤ 4096) (hh : h0 < 4096) (h : post (fu, ll, dl, nc, bs, hK, rm h0, ca, pk, nI J, wt, lc, sp, ye, yc, rK, rV, Nk, Na, N2, C1, C2, C3, Nf, bk, cl, ck, sc_wr cv 0 (sc_tr rm ck cv) (J * 8), mk, wk, rm, gk, gn, ge, gv, gp, gq, yk, yv, 32768, 32768)) : ∀ d i, i + d = J → wY_compact_126 post (nI J) fu ll dl nc bs hK (nI h0) ca pk ct wt lc sp ye yc rK rV 32768 32768 (d + 1) (nI i) Nk Na N2 C1 C2 C3 Nf bk cl ck (sc_wr cv 0 (sc_tr rm ck cv) (i * 8)) mk wk rm gk gn ge gv gp gq yk yv := by
  intro d
  induction d with
  | zero =>
    intro i hi
    have : i = J := by omega
    subst this
    exact br_t (nI_le (a := i) (b := i) (by omega) (by omega)) (br_f (nI_pos (by omega)) (br_f (nI_ge (a := h0) (b := 4096) hh (by omega)) ⟨vp_in_nI hh (by omega), nm_r (e' := rm h0) (by rw [nI_clamp (by omega)]) h⟩))
  | succ d ih =>
    intro i hi
    refine br_f (nI_ge (a := i) (b := J) (by omega) (by omega)) ⟨9, ?_⟩
    have K := yw_tr8 (post := post) (J126 := wY_compact_126 post (nI J) fu ll dl nc bs hK (nI h0) ca pk ct wt lc sp ye yc rK rV 32768 32768 (d + 1)) (x1 := nI J) (fu := fu) (ll := ll) (dl := dl) (nc := nc) (bs := bs) (hK := hK) (hV := nI h0) (ca := ca) (pk := pk) (ct := ct) (wt := wt) (lc := lc) (sp := sp) (ye := ye) (yc := yc) (rK := rK) (rV := rV) (Nk := Nk) (Na := Na) (N2 := N2) (C1 := C1) (C2 := C2) (C3 := C3) (Nf := Nf) (bk := bk) (cl := cl) (ck := ck) (cv := cv) (mk := mk) (wk := wk) (rm := rm) (gk := gk) (gn := gn) (ge := ge) (gv := gv) (gp := gp) (gq := gq) (yk := yk) (yv := yv) (i := i) (by omega) (by
      have := ih (i + 1) (by omega)
      rw [show (i + 1) * 8 = i * 8 + 8 by omega] at this
      exact this) 8 0 (by omega)
    exact K
end
