/-! ===== the reference's drain, frames, end of the check ===== -/
/-- what a closure of the reference holds -/
def sc_EY (ck cv : Nat → Int32) (T a b : Nat) : Prop := b < T ∧ ∃ y, y < 8 ∧ ck (a * 8 + y) = 2 ∧ cv (a * 8 + y) = nI b
section
variable {fu ll dl nc bs hK hV ca pk ct wt lc sp ye yc rK rV : Int32} {Nk Na N2 C1 C2 C3 Nf bk cl ck cv mk wk rm gk gn ge gv gp gq yk yv : Nat → Int32}
theorem yw_drain_l {T : Nat} {R : Nat → Prop} (hT : T ≤ 4096) (hR : ∀ j, R j → j < T) (hk : ∀ j, R j → ∀ y, y < 8 → ck (j * 8 + y) = 2 → ∃ t, R t ∧ cv (j * 8 + y) = nI t) : ∀ (d k : Nat) (mk wk : Nat → Int32) (lc wt : Int32) (c p : Nat) (q w : Nat → Nat), k + d = 4096 → k + p = c → sc_YS T mk wk lc wt c p q w → (∀ i, i < c → R (q i)) → (∀ j, sc_in c q j → sc_in p w j ∨ ∀ t, sc_EY ck cv T j t → sc_in c q t) → ∃ mk' wk' lc' wt' c' q' w', sc_YS T mk' wk' lc' wt' c' 0 q' w' ∧ sc_ex c q c' q' ∧ (∀ i, i < c' → R (q' i)) ∧ (∀ j t, sc_in c' q' j → sc_EY ck cv T j t → sc_in c' q' t) ∧ ∀ (post : SY → Prop) n, d < n → post (fu, ll, dl, nc, bs, hK, hV, ca, pk, ct, wt', lc', sp, ye, yc, rK, rV, Nk, Na, N2, C1, C2, C3, Nf, bk, cl, ck, cv, mk', wk', rm, gk, gn, ge, gv, gp, gq, yk, yv, 32768, 32768) → wY_drain_2 post n (nI k) fu ll dl nc bs hK hV ca pk ct wt lc sp ye yc rK rV Nk Na N2 C1 C2 C3 Nf bk cl ck cv mk wk rm gk gn ge gv gp gq yk yv 32768 32768 := by
  intro d
  induction d with
  | zero =>
    intro k mk wk lc wt c p q w hkd hkp H hq hp
    have hc := sc_YS_b H
    have hp0 : p = 0 := by omega
    subst hp0
    refine ⟨mk, wk, lc, wt, c, q, w, H, sc_ex_r, hq, ?_, fun post n hn h => ?_⟩
    · intro j t hj ht
      rcases hp j hj with ⟨i, hi, _⟩ | h
      · exact absurd hi (Nat.not_lt_zero i)
      · exact h t ht
    · obtain ⟨m, rfl⟩ : ∃ m, n = m + 1 := ⟨n - 1, by omega⟩
      have : k = 4096 := by omega
      subst this
      exact br_t (nI_le (a := 4096) (b := 4096) (by omega) (by omega)) h
  | succ d ih =>
    intro k mk wk lc wt c p q w hkd hkp H hq hp
    have hc := sc_YS_b H
    have hwt := H.2.1
    rcases Nat.eq_zero_or_pos p with hp0 | hpp
    · subst hp0
      refine ⟨mk, wk, lc, wt, c, q, w, H, sc_ex_r, hq, ?_, fun post n hn h => ?_⟩
      · intro j t hj ht
        rcases hp j hj with ⟨i, hi, _⟩ | h
        · exact absurd hi (Nat.not_lt_zero i)
        · exact h t ht
      · obtain ⟨m, rfl⟩ : ∃ m, n = m + 1 := ⟨n - 1, by omega⟩
        exact br_f (nI_ge (a := k) (b := 4096) (by omega) (by omega)) (br_t (by rw [hwt]; exact nI_le (a := 0) (b := 0) (by omega) (by omega)) h)
    · obtain ⟨p1, rfl⟩ : ∃ p1, p = p1 + 1 := ⟨p - 1, by omega⟩
      obtain ⟨h1, h2, h3, h4, h5, h6, h7⟩ := H
      have hw := h7 p1 (by omega)
      have hRa : R (w p1) := by
        obtain ⟨i, hi, e⟩ := hw.2
        rw [← e]
        exact hq i hi
      have H1 : sc_YS T mk wk lc (nI p1) c p1 q w := ⟨h1, rfl, by omega, h4, h5, h6, fun i hi => h7 i (by omega)⟩
      obtain ⟨mk2, wk2, lc2, wt2, c2, p2, q2, w2, b1, b2, b3, b4, K2⟩ := yw_rowD (fu := fu) (ll := ll) (dl := dl) (nc := nc) (bs := bs) (hK := hK) (hV := hV) (ca := ca) (pk := pk) (ct := ct) (sp := sp) (ye := ye) (yc := yc) (rK := rK) (rV := rV) (Nk := Nk) (Na := Na) (N2 := N2) (C1 := C1) (C2 := C2) (C3 := C3) (Nf := Nf) (bk := bk) (cl := cl) (ck := ck) (cv := cv) (rm := rm) (gk := gk) (gn := gn) (ge := ge) (gv := gv) (gp := gp) (gq := gq) (yk := yk) (yv := yv) (a := w p1) H1 hT (hR _ hRa) (by
        intro y hy e
        obtain ⟨t, ht, et⟩ := hk _ hRa y hy e
        exact ⟨t, hR t ht, et⟩)
      have hb3 := b2.2.2.1
      obtain ⟨mk3, wk3, lc3, wt3, c3, q3, w3, d1, d2, d3, d4, K3⟩ := ih (k + 1) mk2 wk2 lc2 wt2 c2 p2 q2 w2 (by omega) (by omega) b1 (by
        intro i hi
        rcases b4 i hi with h | ⟨y, hy, e1, e2⟩
        · rw [b2.1.2 i h]
          exact hq i h
        · obtain ⟨t, ht, et⟩ := hk _ hRa y hy e1
          have := hR t ht
          have := b1.2.2.2.1 i hi
          have e : q2 i = t := sc_nIi (e2.symm.trans et) (by omega) (by omega)
          rw [e]
          exact ht) (by
        intro j hj
        obtain ⟨i, hi, e⟩ := hj
        rcases b2.2.2.2 i hi with h | h
        · rw [b2.1.2 i h] at e
          rcases hp j ⟨i, h, e⟩ with ⟨i', hi', e'⟩ | hcl
          · by_cases e3 : i' = p1
            · subst e3
              refine Or.inr (fun t ht => ?_)
              obtain ⟨htT, y, hy, f1, f2⟩ := ht
              rw [← e'] at f1 f2
              obtain ⟨t', g1, g2, g3⟩ := b3 y hy f1
              have : t = t' := sc_nIi (f2.symm.trans g2) (by omega) (by omega)
              exact this ▸ g3
            · exact Or.inl (sc_ex_in b2.2.1 ⟨i', by omega, e'⟩)
          · exact Or.inr (fun t ht => sc_ex_in b2.1 (hcl t ht))
        · rw [e] at h
          exact Or.inl h)
      refine ⟨mk3, wk3, lc3, wt3, c3, q3, w3, d1, sc_ex_t b2.1 d2, d3, d4, fun post n hn h => ?_⟩
      obtain ⟨m, rfl⟩ : ∃ m, n = m + 1 := ⟨n - 1, by omega⟩
      refine br_f (nI_ge (a := k) (b := 4096) (by omega) (by omega)) (br_f (by rw [hwt]; exact nI_nle (by omega) (by omega)) (nm_r (e' := nI p1) (by rw [hwt]; exact nI_pred p1) ⟨vp_in_nI (by omega) (by omega), nm_r (e' := nI (w p1)) (by rw [nI_clamp (by omega)]; exact hw.1) ⟨9, K2 post (wY_drain_2 post m) (nI k) 9 (by omega) ?_⟩⟩))
      rw [nI_1]
      exact K3 post m (by omega) h
theorem yw_drain {T c : Nat} {q w : Nat → Nat} {R : Nat → Prop} (hT : T ≤ 4096) (hR : ∀ j, R j → j < T) (hk : ∀ j, R j → ∀ y, y < 8 → ck (j * 8 + y) = 2 → ∃ t, R t ∧ cv (j * 8 + y) = nI t) (H : sc_YS T mk wk lc wt c c q w) (hq : ∀ i, i < c → R (q i)) (hp : ∀ i, i < c → sc_in c w (q i)) : ∃ mk' wk' lc' wt' c' q' w', sc_YS T mk' wk' lc' wt' c' 0 q' w' ∧ sc_ex c q c' q' ∧ (∀ i, i < c' → R (q' i)) ∧ (∀ j t, sc_in c' q' j → sc_EY ck cv T j t → sc_in c' q' t) ∧ ∀ (post : SY → Prop), post (fu, ll, dl, nc, bs, hK, hV, ca, pk, ct, wt', lc', sp, ye, yc, rK, rV, Nk, Na, N2, C1, C2, C3, Nf, bk, cl, ck, cv, mk', wk', rm, gk, gn, ge, gv, gp, gq, yk, yv, 32768, 32768) → wpY_drain post (fu, ll, dl, nc, bs, hK, hV, ca, pk, ct, wt, lc, sp, ye, yc, rK, rV, Nk, Na, N2, C1, C2, C3, Nf, bk, cl, ck, cv, mk, wk, rm, gk, gn, ge, gv, gp, gq, yk, yv, 32768, 32768) := by
  obtain ⟨mk3, wk3, lc3, wt3, c3, q3, w3, d1, d2, d3, d4, K3⟩ := yw_drain_l (fu := fu) (ll := ll) (dl := dl) (nc := nc) (bs := bs) (hK := hK) (hV := hV) (ca := ca) (pk := pk) (ct := ct) (sp := sp) (ye := ye) (yc := yc) (rK := rK) (rV := rV) (Nk := Nk) (Na := Na) (N2 := N2) (C1 := C1) (C2 := C2) (C3 := C3) (Nf := Nf) (bk := bk) (cl := cl) (ck := ck) (cv := cv) (rm := rm) (gk := gk) (gn := gn) (ge := ge) (gv := gv) (gp := gp) (gq := gq) (yk := yk) (yv := yv) hT hR hk 4096 0 mk wk lc wt c c q w rfl (Nat.zero_add c) H hq (fun j hj => by
    obtain ⟨i, hi, e⟩ := hj
    exact Or.inl (e ▸ hp i hi))
  exact ⟨mk3, wk3, lc3, wt3, c3, q3, w3, d1, d2, d3, d4, fun post h => ⟨4097, K3 post 4097 (by omega) h⟩⟩
end
