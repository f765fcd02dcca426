/-! ===== what keeps the relation ===== -/
theorem sc_VR_m {g g' : Nat → Nat} {U U' : Nat → Prop} {v k w : Int32} {c : Bool} (h : sc_VR g U v c k w) (m : ∀ s, U s → U' s ∧ g' s = g s) : sc_VR g' U' v c k w := by
  rcases h with h | ⟨h1, h2, s, hs, e1, e2⟩
  · exact Or.inl h
  · exact Or.inr ⟨h1, h2, s, (m s hs).1, e1, by rw [(m s hs).2]; exact e2⟩
theorem sc_VR_r {g : Nat → Nat} {U U' : Nat → Prop} {v k w : Int32} {c : Bool} (h : sc_VR g U v c k w) (m : c = true → ∀ s, U s → v = nI s → U' s) : sc_VR g U' v c k w := by
  rcases h with h | ⟨h1, h2, s, hs, e1, e2⟩
  · exact Or.inl h
  · exact Or.inr ⟨h1, h2, s, m h1 s hs e1, e1, e2⟩
theorem sc_RW_m {g g' : Nat → Nat} {U U' : Nat → Prop} {m c : Int32} {r k w : Nat → Int32} (h : sc_RW g U m r c k w) (hm : ∀ s, U s → U' s ∧ g' s = g s) : sc_RW g' U' m r c k w := fun y hy hb => sc_VR_m (h y hy hb) hm
theorem sc_RW_r {g : Nat → Nat} {U U' : Nat → Prop} {m c : Int32} {r k w : Nat → Int32} (h : sc_RW g U m r c k w) (hm : ∀ y s, y < 8 → bt m y = true → bt c y = true → U s → r y = nI s → U' s) : sc_RW g U' m r c k w := fun y hy hb => sc_VR_r (h y hy hb) (fun hc s hs e => hm y s hy hb hc hs e)
/-- rows that agree where they are asked -/
theorem sc_RW_c {g : Nat → Nat} {U : Nat → Prop} {m c : Int32} {r r' k k' w w' : Nat → Int32} (h : sc_RW g U m r c k w) (hr : ∀ y, y < 8 → r' y = r y) (hk : ∀ y, y < 8 → k' y = k y) (hw : ∀ y, y < 8 → w' y = w y) : sc_RW g U m r' c k' w' := by
  intro y hy hb
  rw [hr y hy, hk y hy, hw y hy]
  exact h y hy hb
/-- fewer are asked, and the mask is cut -/
theorem sc_RW_a {g : Nat → Nat} {U : Nat → Prop} {m m' c c' : Int32} {r k w : Nat → Int32} (h : sc_RW g U m r c k w) (hm : ∀ y, y < 8 → bt m' y = true → bt m y = true) (hc : ∀ y, y < 8 → bt m' y = true → bt c' y = bt c y) : sc_RW g U m' r c' k w := by
  intro y hy hb
  rw [hc y hy hb]
  exact h y hy (hm y hy hb)
/-- a variable is bound -/
theorem sc_RW_b {g : Nat → Nat} {U : Nat → Prop} {m m' c c' : Int32} {r k w : Nat → Int32} {x : Nat} {v p q : Int32} {b : Bool} (h : sc_RW g U m r c k w) (hv : sc_VR g U v b p q) (hm : ∀ y, y < 8 → bt m' y = true → y ≠ x → bt m y = true) (hc : ∀ y, y < 8 → y ≠ x → bt c' y = bt c y) (hx : bt c' x = b) : sc_RW g U m' (upd r x v) c' (upd k x p) (upd w x q) := by
  intro y hy hb
  by_cases e : y = x
  · subst e
    rw [pk_us, pk_us, pk_us, hx]
    exact hv
  · rw [pk_un e, pk_un e, pk_un e, hc y hy e]
    exact h y hy (hm y hy hb e)
theorem sc_HN_m {g g' : Nat → Nat} {U U' : Nat → Prop} {n0 : Nat} {kd fv sl slv slc cl ck cv : Nat → Int32} {s : Nat} (h : sc_HN g U n0 kd fv sl slv slc cl ck cv s) (hm : ∀ s, U s → U' s ∧ g' s = g s) (hs : U s) : sc_HN g' U' n0 kd fv sl slv slc cl ck cv s := by
  obtain ⟨l, h1, h2, h3, h4, h5, h6, h7⟩ := h
  have e := (hm s hs).2
  unfold sc_HN
  rw [e]
  exact ⟨l, h1, h2, h3, h4, sc_RW_m h5 hm, h6, h7⟩
/-- the arrays agree at this closure -/
theorem sc_HN_c {g : Nat → Nat} {U : Nat → Prop} {n0 : Nat} {kd fv sl slv slc cl ck cv sl' slv' slc' cl' ck' cv' : Nat → Int32} {s : Nat} (h : sc_HN g U n0 kd fv sl slv slc cl ck cv s) (e1 : sl' s = sl s) (e2 : ∀ y, y < 8 → slv' (s * 8 + y) = slv (s * 8 + y)) (e3 : slc' s = slc s) (e4 : cl' (g s) = cl (g s)) (e5 : ∀ y, y < 8 → ck' (g s * 8 + y) = ck (g s * 8 + y)) (e6 : ∀ y, y < 8 → cv' (g s * 8 + y) = cv (g s * 8 + y)) : sc_HN g U n0 kd fv sl' slv' slc' cl' ck' cv' s := by
  obtain ⟨l, h1, h2, h3, h4, h5, h6, h7⟩ := h
  refine ⟨l, h1, h2, e1.trans h3, e4.trans h4, ?_, by rw [e3]; exact h6, fun y hy hb => by rw [e5 y hy]; exact h7 y hy hb⟩
  rw [e3]
  exact sc_RW_c h5 e2 e5 e6
theorem sc_FO_m {g g' : Nat → Nat} {U U' : Nat → Prop} {n0 : Nat} {sz : Nat → Nat} {lb c2 c3 fv c2' c3' fk fn fvl fc gk gn gek gev gvk gvv : Nat → Int32} {i w : Nat} (h : sc_FO g U n0 sz lb c2 c3 fv c2' c3' fk fn fvl fc gk gn gek gev gvk gvv i w) (hm : ∀ s, U s → U' s ∧ g' s = g s) : sc_FO g' U' n0 sz lb c2 c3 fv c2' c3' fk fn fvl fc gk gn gek gev gvk gvv i w := by
  obtain ⟨n, h1, h2, h3, h4⟩ := h
  refine ⟨n, h1, h2, h3, ?_⟩
  rcases h4 with ⟨k, b, a1, a2, a3, a4, a5, a6⟩ | ⟨k, a1, c, a2, a3⟩ | ⟨k1, k2, b, e, a1, a2, a3, a4, a5, a6, a7, a8, a9⟩ | ⟨k1, k2, x, b, a1, a2, a3, a4, a5, a6, a7, a8⟩
  · exact Or.inl ⟨k, b, a1, a2, a3, a4, sc_RW_m a5 hm, a6⟩
  · exact Or.inr (Or.inl ⟨k, a1, c, a2, sc_VR_m a3 hm⟩)
  · exact Or.inr (Or.inr (Or.inl ⟨k1, k2, b, e, a1, a2, a3, a4, a5, a6, a7, sc_RW_m a8 hm, a9⟩))
  · exact Or.inr (Or.inr (Or.inr ⟨k1, k2, x, b, a1, a2, a3, a4, a5, a6, sc_RW_m a7 hm, a8⟩))
/-- what a frame holds alive on the component's side -/
def sc_FR (fvl fc : Nat → Int32) (i s : Nat) : Prop := s < 34 ∧ ∃ y, y < 8 ∧ bt (fc i) y = true ∧ fvl (i * 8 + y) = nI s
/-- what a closure holds alive there -/
def sc_EX (slv slc : Nat → Int32) (s t : Nat) : Prop := t < 34 ∧ ∃ y, y < 8 ∧ bt (slc s) y = true ∧ slv (s * 8 + y) = nI t
theorem sc_bi0 (c : Bool) : bt (sc_bi c) 0 = c := by cases c <;> decide
theorem sc_bi1 (c : Bool) : ∀ y, y < 8 → bt (sc_bi c) y = true → y = 0 ∧ c = true := by cases c <;> decide +kernel
theorem sc_FO_r {g : Nat → Nat} {U U' : Nat → Prop} {n0 : Nat} {sz : Nat → Nat} {lb c2 c3 fv c2' c3' fk fn fvl fc gk gn gek gev gvk gvv : Nat → Int32} {i w : Nat} (h : sc_FO g U n0 sz lb c2 c3 fv c2' c3' fk fn fvl fc gk gn gek gev gvk gvv i w) (hU : ∀ s, U s → s < 34) (hm : ∀ s, sc_FR fvl fc i s → U' s) : sc_FO g U' n0 sz lb c2 c3 fv c2' c3' fk fn fvl fc gk gn gek gev gvk gvv i w := by
  obtain ⟨n, h1, h2, h3, h4⟩ := h
  refine ⟨n, h1, h2, h3, ?_⟩
  rcases h4 with ⟨k, b, a1, a2, a3, a4, a5, a6⟩ | ⟨k, a1, c, a2, a3⟩ | ⟨k1, k2, b, e, a1, a2, a3, a4, a5, a6, a7, a8, a9⟩ | ⟨k1, k2, x, b, a1, a2, a3, a4, a5, a6, a7, a8⟩
  · exact Or.inl ⟨k, b, a1, a2, a3, a4, sc_RW_r a5 (fun y s hy _ hc hs e => hm s ⟨hU s hs, y, hy, hc, e⟩), a6⟩
  · exact Or.inr (Or.inl ⟨k, a1, c, a2, sc_VR_r a3 (fun hc s hs e => hm s ⟨hU s hs, 0, by omega, by rw [a2, sc_bi0]; exact hc, e⟩)⟩)
  · exact Or.inr (Or.inr (Or.inl ⟨k1, k2, b, e, a1, a2, a3, a4, a5, a6, a7, sc_RW_r a8 (fun y s hy _ hc hs e => hm s ⟨hU s hs, y, hy, hc, e⟩), a9⟩))
  · exact Or.inr (Or.inr (Or.inr ⟨k1, k2, x, b, a1, a2, a3, a4, a5, a6, sc_RW_r a7 (fun y s hy _ hc hs e => hm s ⟨hU s hs, y, hy, hc, e⟩), a8⟩))
theorem sc_nIi {a b : Nat} (h : nI a = nI b) (ha : a < 2 ^ 31) (hb : b < 2 ^ 31) : a = b := (nI_eq ha hb).mp h
/-- a row's closures are known -/
theorem sc_RW_k {g : Nat → Nat} {U : Nat → Prop} {m c : Int32} {r k w : Nat → Int32} (h : sc_RW g U m r c k w) (hU : ∀ s, U s → s < 34) {y s : Nat} (hy : y < 8) (hm : bt m y = true) (hc : bt c y = true) (hs : s < 34) (e : r y = nI s) : U s ∧ k y = 2 ∧ w y = nI (g s) := by
  rcases h y hy hm with ⟨z, _⟩ | ⟨_, h2, t, ht, e1, e2⟩
  · rw [hc] at z; cases z
  · have : s = t := sc_nIi (e.symm.trans e1) (by omega) (by have := hU t ht; omega)
    subst this
    exact ⟨ht, h2, e2⟩
theorem sc_FO_k {g : Nat → Nat} {U : Nat → Prop} {n0 : Nat} {sz : Nat → Nat} {lb c2 c3 fv c2' c3' fk fn fvl fc gk gn gek gev gvk gvv : Nat → Int32} {i w : Nat} (h : sc_FO g U n0 sz lb c2 c3 fv c2' c3' fk fn fvl fc gk gn gek gev gvk gvv i w) (hU : ∀ s, U s → s < 34) : ∀ s, sc_FR fvl fc i s → U s := by
  intro s hs
  obtain ⟨hs, y, hy, hc, e⟩ := hs
  obtain ⟨n, h1, h2, h3, h4⟩ := h
  rcases h4 with ⟨k, b, a1, a2, a3, a4, a5, a6⟩ | ⟨k, a1, c, a2, a3⟩ | ⟨k1, k2, b, e, a1, a2, a3, a4, a5, a6, a7, a8, a9⟩ | ⟨k1, k2, x, b, a1, a2, a3, a4, a5, a6, a7, a8⟩
  · exact (sc_RW_k a5 hU hy (a6 y hy hc) hc hs e).1
  · rw [a2] at hc
    obtain ⟨rfl, rfl⟩ := sc_bi1 c y hy hc
    rcases a3 with ⟨z, _⟩ | ⟨_, _, t, ht, e1, _⟩
    · cases z
    · have : s = t := sc_nIi (e.symm.trans e1) (by omega) (by have := hU t ht; omega)
      exact this ▸ ht
  · exact (sc_RW_k a8 hU hy (a9 y hy hc) hc hs (by assumption)).1
  · exact (sc_RW_k a7 hU hy (a8 y hy hc) hc hs e).1
theorem sc_HN_k {g : Nat → Nat} {U : Nat → Prop} {n0 : Nat} {kd fv sl slv slc cl ck cv : Nat → Int32} {s t : Nat} (h : sc_HN g U n0 kd fv sl slv slc cl ck cv s) (hU : ∀ s, U s → s < 34) (e : sc_EX slv slc s t) : U t := by
  obtain ⟨l, h1, h2, h3, h4, h5, h6, h7⟩ := h
  obtain ⟨ht, y, hy, hc, ev⟩ := e
  exact (sc_RW_k h5 hU hy (h6 y hy hc) hc ht ev).1
theorem sc_HN_r {g : Nat → Nat} {U U' : Nat → Prop} {n0 : Nat} {kd fv sl slv slc cl ck cv : Nat → Int32} {s : Nat} (h : sc_HN g U n0 kd fv sl slv slc cl ck cv s) (hU : ∀ s, U s → s < 34) (hm : ∀ t, sc_EX slv slc s t → U' t) : sc_HN g U' n0 kd fv sl slv slc cl ck cv s := by
  obtain ⟨l, h1, h2, h3, h4, h5, h6, h7⟩ := h
  exact ⟨l, h1, h2, h3, h4, sc_RW_r h5 (fun y t hy _ hc ht e => hm t ⟨hU t ht, y, hy, hc, e⟩), h6, h7⟩
theorem sc_HB_n {g : Nat → Nat} {U : Nat → Prop} {iu : Nat → Int32} {top s0 : Nat} (h : sc_HB g U iu top) (hf : iu s0 = 0) : ¬ U s0 := by
  intro hU
  have := (h.1 s0 hU).2.1
  rw [hf] at this
  exact absurd this (by decide)
/-- a slot is taken: it stands for the reference's next closure -/
theorem sc_HB_t {g : Nat → Nat} {U : Nat → Prop} {iu : Nat → Int32} {top s0 : Nat} (h : sc_HB g U iu top) (h0 : s0 < 34) (hf : iu s0 = 0) : sc_HB (fun s => if s = s0 then top else g s) (fun s => U s ∨ s = s0) (upd iu s0 1) (top + 1) := by
  have hn := sc_HB_n h hf
  constructor
  · intro s hs
    by_cases e : s = s0
    · subst e
      exact ⟨h0, pk_us, by dsimp only; rw [if_pos rfl]; omega⟩
    · have hU : U s := hs.resolve_right e
      have := h.1 s hU
      exact ⟨this.1, by rw [pk_un e]; exact this.2.1, by dsimp only; rw [if_neg e]; omega⟩
  · intro s t hs ht hg
    dsimp only at hg
    by_cases e : s = s0
    · by_cases e2 : t = s0
      · rw [e, e2]
      · rw [if_pos e, if_neg e2] at hg
        have := (h.1 t (ht.resolve_right e2)).2.2
        omega
    · by_cases e2 : t = s0
      · rw [if_neg e, if_pos e2] at hg
        have := (h.1 s (hs.resolve_right e)).2.2
        omega
      · rw [if_neg e, if_neg e2] at hg
        exact h.2 s t (hs.resolve_right e) (ht.resolve_right e2) hg
theorem sc_HB_e {g : Nat → Nat} {U : Nat → Prop} {iu : Nat → Int32} {top s0 : Nat} (h : sc_HB g U iu top) (hf : iu s0 = 0) : ∀ s, U s → (U s ∨ s = s0) ∧ (if s = s0 then top else g s) = g s := by
  intro s hs
  refine ⟨Or.inl hs, if_neg ?_⟩
  intro e
  exact sc_HB_n h hf (e ▸ hs)
/-- a closure is filled from the environment -/
theorem sc_HN_f {g : Nat → Nat} {U : Nat → Prop} {n0 l s : Nat} {kd fv sl slv slc cl ck cv en yk yv : Nat → Int32} {ec : Int32} (h : sc_RW g U (fv l) en ec yk yv) (h1 : l < n0) (h2 : kd l = 2) (h3 : sl s = nI l) (h4 : cl (g s) = nI l) (e1 : ∀ y, y < 8 → slv (s * 8 + y) = en y) (e2 : slc s = ec &&& fv l) (e3 : ∀ y, y < 8 → ck (g s * 8 + y) = if bt (fv l) y = true then yk y else 0) (e4 : ∀ y, y < 8 → bt (fv l) y = true → cv (g s * 8 + y) = yv y) : sc_HN g U n0 kd fv sl slv slc cl ck cv s := by
  refine ⟨l, h1, h2, h3, h4, ?_, ?_, ?_⟩
  · intro y hy hb
    dsimp only
    rw [e1 y hy, e2, b_and, hb, Bool.and_true, e3 y hy, if_pos hb, e4 y hy hb]
    exact h y hy hb
  · intro y hy hc
    rw [e2, b_and] at hc
    exact (Bool.and_eq_true_iff.mp hc).2
  · intro y hy hb
    rw [e3 y hy, if_neg (by rw [hb]; decide)]
    decide
/-- after a check: only what was reached is known -/
theorem sc_HB_r {g : Nat → Nat} {U U' : Nat → Prop} {iu iu' : Nat → Int32} {top : Nat} (h : sc_HB g U iu top) (hm : ∀ s, U' s → U s ∧ iu' s = 1) : sc_HB g U' iu' top := ⟨fun s hs => ⟨(h.1 s (hm s hs).1).1, (hm s hs).2, (h.1 s (hm s hs).1).2.2⟩, fun s t hs ht => h.2 s t (hm s hs).1 (hm t ht).1⟩
/-- a free slot is left -/
theorem sc_IU_f {m : Nat} {iu : Nat → Int32} (h : sc_IU m iu) (hm : m < 34) : ∃ s, s < 34 ∧ iu s = 0 := by
  obtain ⟨h1, c, q, hc, hq⟩ := h
  apply Classical.byContradiction
  intro hn
  have hp : 34 ≤ c := sc_pig (T := fun s i => q i = s) (fun s hs => hq s hs ((h1 s hs).resolve_left (fun z => hn ⟨s, hs, z⟩))) (fun i k j _ _ a b => a.symm.trans b)
  omega
theorem sc_IU_t {m s0 : Nat} {iu : Nat → Int32} (h : sc_IU m iu) : sc_IU (m + 1) (upd iu s0 1) := by
  obtain ⟨h1, c, q, hc, hq⟩ := h
  refine ⟨?_, c + 1, fun i => if i = c then s0 else q i, by omega, ?_⟩
  · intro s hs
    by_cases e : s = s0
    · subst e; exact Or.inr pk_us
    · rw [pk_un e]; exact h1 s hs
  · intro s hs hu
    by_cases e : s = s0
    · exact ⟨c, by omega, by dsimp only; rw [if_pos rfl, e]⟩
    · rw [pk_un e] at hu
      obtain ⟨i, hi, e2⟩ := hq s hs hu
      exact ⟨i, by omega, by dsimp only; rw [if_neg (by omega)]; exact e2⟩
/-- a counted loop in the form 'there is one end state such that, whatever is asked of it, ..' -/
theorem sc_loop {P S : Type} (W : P → Nat → Nat → S → Prop) (X : P → S → Prop) (I : Nat → S → Prop) (e : Nat) (hx : ∀ p n s, I e s → X p s → W p (n + 1) e s) (hs : ∀ i s, i < e → I i s → ∃ s', I (i + 1) s' ∧ ∀ p n, W p n (i + 1) s' → W p (n + 1) i s) : ∀ d i s, i + d = e → I i s → ∃ s', I e s' ∧ ∀ p n, d < n → X p s' → W p n i s := by
  intro d
  induction d with
  | zero =>
    intro i s hi h
    have : i = e := by omega
    subst this
    refine ⟨s, h, fun p n hn hX => ?_⟩
    obtain ⟨m, rfl⟩ : ∃ m, n = m + 1 := ⟨n - 1, by omega⟩
    exact hx p m s h hX
  | succ d ih =>
    intro i s hi h
    obtain ⟨s1, h1, k1⟩ := hs i s (by omega) h
    obtain ⟨s2, h2, k2⟩ := ih (i + 1) s1 (by omega) h1
    refine ⟨s2, h2, fun p n hn hX => ?_⟩
    obtain ⟨m, rfl⟩ : ∃ m, n = m + 1 := ⟨n - 1, by omega⟩
    exact k1 p m (k2 p m (by omega) hX)
