/-! ===== pure rows: least closed sets, counting, sums over frames ===== -/
/-- the least set that holds R and is closed under E -/
def sc_rc (R : Nat → Prop) (E : Nat → Nat → Prop) (s : Nat) : Prop := ∀ P : Nat → Prop, (∀ a, R a → P a) → (∀ a b, P a → E a b → P b) → P s
theorem sc_rc_r {R : Nat → Prop} {E : Nat → Nat → Prop} {s : Nat} (h : R s) : sc_rc R E s := fun _ h0 _ => h0 _ h
theorem sc_rc_e {R : Nat → Prop} {E : Nat → Nat → Prop} {a b : Nat} (h : sc_rc R E a) (e : E a b) : sc_rc R E b := fun P h0 h1 => h1 _ _ (h P h0 h1) e
theorem sc_iso1 {RX : Nat → Prop} {EX : Nat → Nat → Prop} {U : Nat → Prop} (hR : ∀ s, RX s → U s) (hE : ∀ s t, U s → EX s t → U t) : ∀ s, sc_rc RX EX s → U s := fun s h => h U hR (fun a b ha e => hE a b ha e)
theorem sc_iso2 {RX RY : Nat → Prop} {EX EY : Nat → Nat → Prop} {U : Nat → Prop} {g : Nat → Nat} (hR : ∀ s, RX s → U s) (hE : ∀ s t, U s → EX s t → U t) (hRY : ∀ j, RY j ↔ ∃ s, RX s ∧ g s = j) (hEY : ∀ s j, U s → (EY (g s) j ↔ ∃ t, EX s t ∧ g t = j)) : ∀ j, sc_rc RY EY j ↔ ∃ s, sc_rc RX EX s ∧ g s = j := by
  have hU := sc_iso1 hR hE
  intro j
  constructor
  · intro h
    refine h (fun j => ∃ s, sc_rc RX EX s ∧ g s = j) ?_ ?_
    · intro a ha
      obtain ⟨s, hs, e⟩ := (hRY a).mp ha
      exact ⟨s, sc_rc_r hs, e⟩
    · intro a b ha e
      obtain ⟨s, hs, rfl⟩ := ha
      obtain ⟨t, ht, e2⟩ := (hEY s b (hU s hs)).mp e
      exact ⟨t, sc_rc_e hs ht, e2⟩
  · intro h
    obtain ⟨s, hs, rfl⟩ := h
    exact (hs (fun s => sc_rc RX EX s ∧ sc_rc RY EY (g s)) (fun a ha => ⟨sc_rc_r ha, sc_rc_r ((hRY _).mpr ⟨a, ha, rfl⟩)⟩) (fun a b ha e => ⟨sc_rc_e ha.1 e, sc_rc_e ha.2 ((hEY a _ (hU a ha.1)).mpr ⟨b, e, rfl⟩)⟩)).2
theorem sc_len : ∀ {l1 l2 : List Nat}, l1.Nodup → (∀ a, a ∈ l1 → a ∈ l2) → l1.length ≤ l2.length := by
  intro l1
  induction l1 with
  | nil => intro l2 _ _; exact Nat.zero_le _
  | cons a t ih =>
    intro l2 hn h
    rw [List.nodup_cons] at hn
    have ha : a ∈ l2 := h a (List.mem_cons_self ..)
    have ht : t.length ≤ (l2.erase a).length := ih hn.2 (fun b hb => (List.mem_erase_of_ne (show b ≠ a from fun e => hn.1 (e ▸ hb))).mpr (h b (List.mem_cons_of_mem _ hb)))
    rw [List.length_erase_of_mem ha] at ht
    have := List.length_pos_of_mem ha
    rw [List.length_cons]
    omega
/-- an injection from the numbers below c into those below d -/
theorem sc_pig {c d : Nat} {T : Nat → Nat → Prop} (h : ∀ i, i < c → ∃ j, j < d ∧ T i j) (hi : ∀ i k j, i < c → k < c → T i j → T k j → i = k) : c ≤ d := by
  have h2 : ∀ i, ∃ j, i < c → j < d ∧ T i j := by
    intro i
    by_cases hc : i < c
    · obtain ⟨j, hj⟩ := h i hc
      exact ⟨j, fun _ => hj⟩
    · exact ⟨0, fun z => absurd z hc⟩
  obtain ⟨f, hf⟩ := Classical.skolem.mp h2
  have hn : ((List.range c).map f).Nodup := by
    rw [List.nodup_iff_pairwise_ne, List.pairwise_map]
    refine List.Pairwise.imp_of_mem ?_ (List.nodup_iff_pairwise_ne.mp List.nodup_range)
    intro a b ha hb hab e
    rw [List.mem_range] at ha hb
    exact hab (hi a b (f a) ha hb (hf a ha).2 (e ▸ (hf b hb).2))
  have hl := sc_len (l2 := List.range d) hn (by
    intro a ha
    rw [List.mem_map] at ha
    obtain ⟨i, hi2, rfl⟩ := ha
    rw [List.mem_range] at hi2 ⊢
    exact (hf i hi2).1)
  rw [List.length_map, List.length_range, List.length_range] at hl
  exact hl
/-- frames d-1 .. 0, each with its weight, of the whole weight Q -/
def sc_FS (F : Nat → Nat → Prop) : Nat → Nat → Prop
  | 0, _ => True
  | d + 1, Q => ∃ w q, F d w ∧ Q = w + q ∧ sc_FS F d q
theorem sc_FS_m {F G : Nat → Nat → Prop} : ∀ {d Q : Nat}, (∀ i w, i < d → F i w → G i w) → sc_FS F d Q → sc_FS G d Q := by
  intro d
  induction d with
  | zero => intro Q _ _; exact True.intro
  | succ d ih =>
    intro Q h hF
    obtain ⟨w, q, hw, e, hq⟩ := hF
    exact ⟨w, q, h d w (Nat.lt_succ_self d) hw, e, ih (fun i w hi => h i w (Nat.lt_succ_of_lt hi)) hq⟩
theorem sc_FS_at {F : Nat → Nat → Prop} : ∀ {d Q i : Nat}, sc_FS F d Q → i < d → ∃ w, F i w := by
  intro d
  induction d with
  | zero => intro Q i _ h; exact absurd h (Nat.not_lt_zero i)
  | succ d ih =>
    intro Q i hF hi
    obtain ⟨w, q, hw, _, hq⟩ := hF
    rcases Nat.lt_or_ge i d with h | h
    · exact ih hq h
    · have : i = d := by omega
      subst this
      exact ⟨w, hw⟩
