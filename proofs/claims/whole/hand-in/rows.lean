section
theorem pk_us {f : Nat → Int32} {k : Nat} {x : Int32} : upd f k x k = x := if_pos rfl
theorem pk_un {f : Nat → Int32} {k j : Nat} {x : Int32} (h : j ≠ k) : upd f k x j = f j := if_neg h
theorem pk_sub {a b : Nat} (h : b ≤ a) : nI a - nI b = nI (a - b) := by
  obtain ⟨c, rfl⟩ : ∃ c, a = c + b := ⟨a - b, by omega⟩
  rw [← nI_add, Int32.add_sub_cancel, Nat.add_sub_cancel]
theorem pk_mul (a b : Nat) : nI a * nI b = nI (a * b) := (Int32.ofNat_mul a b).symm
theorem pk_ix (x : Int32) {n : Nat} (hn : n < 2 ^ 31) : x < 0 ∨ nI n ≤ x ∨ ∃ j : Nat, j < n ∧ x = nI j := by
  by_cases h : x < 0
  · exact Or.inl h
  · obtain ⟨j, hj, rfl⟩ := nI_of h
    by_cases h2 : j < n
    · exact Or.inr (Or.inr ⟨j, h2, rfl⟩)
    · exact Or.inr (Or.inl (nI_le (by omega) hj))
theorem pk_le {x y : Int32} {A B : Prop} (a b : Nat) (f : a ≤ b → A) (g : b < a → B) (hx : x = nI a := by rfl) (hy : y = nI b := by rfl) (ha : a < 2 ^ 31 := by omega) (hb : b < 2 ^ 31 := by omega) : (x ≤ y → A) ∧ (¬ x ≤ y → B) := by
  subst hx hy
  rw [nI_leI ha hb]
  exact ⟨f, fun z => g (by omega)⟩
theorem pk_lt {x y : Int32} {A B : Prop} (a b : Nat) (f : a < b → A) (g : b ≤ a → B) (hx : x = nI a := by rfl) (hy : y = nI b := by rfl) (ha : a < 2 ^ 31 := by omega) (hb : b < 2 ^ 31 := by omega) : (x < y → A) ∧ (¬ x < y → B) := by
  subst hx hy
  rw [nI_ltI ha hb]
  exact ⟨f, fun z => g (by omega)⟩
theorem pk_in {x : Int32} (n N : Nat) (h : n < N) (hx : x = nI n := by rfl) (hN : N < 2 ^ 31 := by omega) : vp_in x N := by
  subst hx
  exact vp_in_nI h hN
theorem pk_least (P : Nat → Prop) (h : ∃ k, P k) : ∃ k, P k ∧ ∀ j, j < k → ¬ P j := by
  obtain ⟨k, hk⟩ := h
  induction k using Nat.strongRecOn with
  | ind k ih =>
    by_cases e : ∃ j, j < k ∧ P j
    · obtain ⟨j, hj, pj⟩ := e
      exact ih j hj pj
    · exact ⟨k, hk, fun j hj pj => e ⟨j, hj, pj⟩⟩
def bt (x : Int32) (i : Nat) : Bool := x.toBitVec.getLsbD i
theorem b_ext {x y : Int32} (h : ∀ i, i < 32 → bt x i = bt y i) : x = y := Int32.toBitVec_inj.mp (BitVec.eq_of_getLsbD_eq (fun i hi => h i hi))
theorem b_or (x y : Int32) (i : Nat) : bt (x ||| y) i = (bt x i || bt y i) := by unfold bt; rw [Int32.toBitVec_or, BitVec.getLsbD_or]
theorem b_and (x y : Int32) (i : Nat) : bt (x &&& y) i = (bt x i && bt y i) := by unfold bt; rw [Int32.toBitVec_and, BitVec.getLsbD_and]
theorem b_xor (x y : Int32) (i : Nat) : bt (x ^^^ y) i = (bt x i ^^ bt y i) := by unfold bt; rw [Int32.toBitVec_xor, BitVec.getLsbD_xor]
theorem b_big {x : Int32} {i : Nat} (h : 32 ≤ i) : bt x i = false := BitVec.getLsbD_of_ge _ _ h
theorem b_m1 : ∀ i, i < 32 → bt (-1) i = true := by decide +kernel
theorem b_0 (i : Nat) : bt 0 i = false := BitVec.getLsbD_zero
theorem s_l : ∀ n, n < 32 → ((nI n &&& 31).toBitVec.smod 32).toNat = n := by decide +kernel
theorem b_shl (n : Nat) (hn : n < 32) (x : Int32) {i : Nat} (hi : i < 32) : bt (x <<< (nI n &&& 31)) i = (decide (n ≤ i) && bt x (i - n)) := by
  unfold bt
  rw [Int32.toBitVec_shiftLeft]
  show (x.toBitVec <<< ((nI n &&& 31).toBitVec.smod 32).toNat).getLsbD i = _
  rw [s_l n hn, BitVec.getLsbD_shiftLeft]
  rcases Nat.lt_or_ge i n with h | h
  · simp [h, Nat.not_le.mpr h]
  · simp [hi, h, Nat.not_lt.mpr h]
theorem b_sshr (n : Nat) (hn : n < 32) (x : Int32) {i : Nat} (hi : i < 32) : bt (x >>> (nI n &&& 31)) i = if n + i < 32 then bt x (n + i) else bt x 31 := by
  unfold bt
  rw [Int32.toBitVec_shiftRight]
  show (x.toBitVec.sshiftRight ((nI n &&& 31).toBitVec.smod 32).toNat).getLsbD i = _
  rw [s_l n hn, BitVec.getLsbD_sshiftRight, BitVec.msb_eq_getLsbD_last]
  simp [hi]
end
section
/-! ===== pure rows: least closed sets, counting, sums over frames ===== -/
/-- the least set that holds R and is closed under E -/
def sc_rc (R : Nat → Prop) (E : Nat → Nat → Prop) (s : Nat) : Prop := ∀ P : Nat → Prop, (∀ a, R a → P a) → (∀ a b, P a → E a b → P b) → P s
theorem sc_rc_r {R : Nat → Prop} {E : Nat → Nat → Prop} {s : Nat} (h : R s) : sc_rc R E s := fun _ h0 _ => h0 _ h
theorem sc_rc_e {R : Nat → Prop} {E : Nat → Nat → Prop} {a b : Nat} (h : sc_rc R E a) (e : E a b) : sc_rc R E b := fun P h0 h1 => h1 _ _ (h P h0 h1) e
theorem sc_iso1 {RX : Nat → Prop} {EX : Nat → Nat → Prop} {U : Nat → Prop} (hR : ∀ s, RX s → U s) (hE : ∀ s t, U s → EX s t → U t) : ∀ s, sc_rc RX EX s → U s := fun s h => h U hR (fun a b ha e => hE a b ha e)
theorem sc_iso2 {RX RY : Nat → Prop} {EX EY : Nat → Nat → Prop} {U : Nat → Prop} {g : Nat → Nat} (hR : ∀ s, RX s → U s) (hE : ∀ s t, U s → EX s t → U t) (hRY : ∀ j, RY j ↔ ∃ s, RX s ∧ g s = j) (hEY : ∀ s j, U s → (EY (g s) j ↔ ∃ t, EX s t ∧ g t = j)) : ∀ j, sc_rc RY EY j ↔ ∃ s, sc_rc RX EX s ∧ g s = j := by
  have hU := sc_iso1 hR hE
  intro j
  constructor
  · intro h
    refine h (fun j => ∃ s, sc_rc RX EX s ∧ g s = j) ?_ ?_
    · intro a ha
      obtain ⟨s, hs, e⟩ := (hRY a).mp ha
      exact ⟨s, sc_rc_r hs, e⟩
    · intro a b ha e
      obtain ⟨s, hs, rfl⟩ := ha
      obtain ⟨t, ht, e2⟩ := (hEY s b (hU s hs)).mp e
      exact ⟨t, sc_rc_e hs ht, e2⟩
  · intro h
    obtain ⟨s, hs, rfl⟩ := h
    exact (hs (fun s => sc_rc RX EX s ∧ sc_rc RY EY (g s)) (fun a ha => ⟨sc_rc_r ha, sc_rc_r ((hRY _).mpr ⟨a, ha, rfl⟩)⟩) (fun a b ha e => ⟨sc_rc_e ha.1 e, sc_rc_e ha.2 ((hEY a _ (hU a ha.1)).mpr ⟨b, e, rfl⟩)⟩)).2
theorem sc_len : ∀ {l1 l2 : List Nat}, l1.Nodup → (∀ a, a ∈ l1 → a ∈ l2) → l1.length ≤ l2.length := by
  intro l1
  induction l1 with
  | nil => intro l2 _ _; exact Nat.zero_le _
  | cons a t ih =>
    intro l2 hn h
    rw [List.nodup_cons] at hn
    have ha : a ∈ l2 := h a (List.mem_cons_self ..)
    have ht : t.length ≤ (l2.erase a).length := ih hn.2 (fun b hb => (List.mem_erase_of_ne (show b ≠ a from fun e => hn.1 (e ▸ hb))).mpr (h b (List.mem_cons_of_mem _ hb)))
    rw [List.length_erase_of_mem ha] at ht
    have := List.length_pos_of_mem ha
    rw [List.length_cons]
    omega
/-- an injection from the numbers below c into those below d -/
theorem sc_pig {c d : Nat} {T : Nat → Nat → Prop} (h : ∀ i, i < c → ∃ j, j < d ∧ T i j) (hi : ∀ i k j, i < c → k < c → T i j → T k j → i = k) : c ≤ d := by
  have h2 : ∀ i, ∃ j, i < c → j < d ∧ T i j := by
    intro i
    by_cases hc : i < c
    · obtain ⟨j, hj⟩ := h i hc
      exact ⟨j, fun _ => hj⟩
    · exact ⟨0, fun z => absurd z hc⟩
  obtain ⟨f, hf⟩ := Classical.skolem.mp h2
  have hn : ((List.range c).map f).Nodup := by
    rw [List.nodup_iff_pairwise_ne, List.pairwise_map]
    refine List.Pairwise.imp_of_mem ?_ (List.nodup_iff_pairwise_ne.mp List.nodup_range)
    intro a b ha hb hab e
    rw [List.mem_range] at ha hb
    exact hab (hi a b (f a) ha hb (hf a ha).2 (e ▸ (hf b hb).2))
  have hl := sc_len (l2 := List.range d) hn (by
    intro a ha
    rw [List.mem_map] at ha
    obtain ⟨i, hi2, rfl⟩ := ha
    rw [List.mem_range] at hi2 ⊢
    exact (hf i hi2).1)
  rw [List.length_map, List.length_range, List.length_range] at hl
  exact hl
/-- frames d-1 .. 0, each with its weight, of the whole weight Q -/
def sc_FS (F : Nat → Nat → Prop) : Nat → Nat → Prop
  | 0, _ => True
  | d + 1, Q => ∃ w q, F d w ∧ Q = w + q ∧ sc_FS F d q
theorem sc_FS_m {F G : Nat → Nat → Prop} : ∀ {d Q : Nat}, (∀ i w, i < d → F i w → G i w) → sc_FS F d Q → sc_FS G d Q := by
  intro d
  induction d with
  | zero => intro Q _ _; exact True.intro
  | succ d ih =>
    intro Q h hF
    obtain ⟨w, q, hw, e, hq⟩ := hF
    exact ⟨w, q, h d w (Nat.lt_succ_self d) hw, e, ih (fun i w hi => h i w (Nat.lt_succ_of_lt hi)) hq⟩
theorem sc_FS_at {F : Nat → Nat → Prop} : ∀ {d Q i : Nat}, sc_FS F d Q → i < d → ∃ w, F i w := by
  intro d
  induction d with
  | zero => intro Q i _ h; exact absurd h (Nat.not_lt_zero i)
  | succ d ih =>
    intro Q i hF hi
    obtain ⟨w, q, hw, _, hq⟩ := hF
    rcases Nat.lt_or_ge i d with h | h
    · exact ih hq h
    · have : i = d := by omega
      subst this
      exact ⟨w, hw⟩
end
section
/-! ===== the relation: values, rows, heap, frames, program ===== -/
def sc_bi : Bool → Int32
  | true => 1
  | false => 0
theorem sc_bit (m : Int32) {y : Nat} (hy : y < 32) : ((m >>> (nI y &&& 31)) &&& 1) = 0 ↔ bt m y = false := by
  have e0 : bt (m >>> (nI y &&& 31)) 0 = bt m y := by
    rw [b_sshr y hy m (by omega), if_pos (by omega), Nat.add_zero]
  constructor
  · intro h
    have h0 : bt ((m >>> (nI y &&& 31)) &&& 1) 0 = false := by rw [h]; exact b_0 0
    rw [b_and, e0, (by decide : bt 1 0 = true), Bool.and_true] at h0
    exact h0
  · intro h
    apply b_ext
    intro i hi
    rw [b_and, b_0]
    rcases Nat.eq_zero_or_pos i with z | z
    · subst z
      rw [e0, h]; rfl
    · rw [(by decide +kernel : ∀ i, i < 32 → 0 < i → bt 1 i = false) i hi z, Bool.and_false]
theorem sc_sh1 : ∀ x, x < 8 → ∀ y, y < 32 → bt ((1 : Int32) <<< (nI x &&& 31)) y = decide (y = x) := by decide +kernel
theorem sc_bs {m : Int32} {x y : Nat} (hx : x < 8) (hy : y < 32) : bt (m ||| ((1 : Int32) <<< (nI x &&& 31))) y = (bt m y || decide (y = x)) := by rw [b_or, sc_sh1 x hx y hy]
theorem sc_bc {m : Int32} {x y : Nat} (hx : x < 8) (hy : y < 32) : bt (m &&& (((1 : Int32) <<< (nI x &&& 31)) ^^^ (-1))) y = (bt m y && !decide (y = x)) := by rw [b_and, b_xor, sc_sh1 x hx y hy, b_m1 y hy, Bool.xor_true]
/-- one value on both sides: an int, or a closure whose slot s stands for the reference's g s -/
def sc_VR (g : Nat → Nat) (U : Nat → Prop) (v : Int32) (c : Bool) (k w : Int32) : Prop := (c = false ∧ k = 1 ∧ w = v) ∨ (c = true ∧ k = 2 ∧ ∃ s, U s ∧ v = nI s ∧ w = nI (g s))
/-- a row of eight, where the mask m asks -/
def sc_RW (g : Nat → Nat) (U : Nat → Prop) (m : Int32) (r : Nat → Int32) (c : Int32) (k w : Nat → Int32) : Prop := ∀ y, y < 8 → bt m y = true → sc_VR g U (r y) (bt c y) (k y) (w y)
/-- closures stand only where m asks -/
def sc_CM (m c : Int32) : Prop := ∀ y, y < 8 → bt c y = true → bt m y = true
/-- slots and the reference's closures: U is in use and known, g names the reference's -/
def sc_HB (g : Nat → Nat) (U : Nat → Prop) (iu : Nat → Int32) (top : Nat) : Prop := (∀ s, U s → s < 34 ∧ iu s = 1 ∧ g s < top) ∧ (∀ s t, U s → U t → g s = g t → s = t)
/-- one closure on both sides -/
def sc_HN (g : Nat → Nat) (U : Nat → Prop) (n0 : Nat) (kd fv sl slv slc cl ck cv : Nat → Int32) (s : Nat) : Prop := ∃ l, l < n0 ∧ kd l = 2 ∧ sl s = nI l ∧ cl (g s) = nI l ∧ sc_RW g U (fv l) (fun y => slv (s * 8 + y)) (slc s) (fun y => ck (g s * 8 + y)) (fun y => cv (g s * 8 + y)) ∧ sc_CM (fv l) (slc s) ∧ ∀ y, y < 8 → bt (fv l) y = false → ¬ ck (g s * 8 + y) = 2
/-- at most m slots are in use -/
def sc_IU (m : Nat) (iu : Nat → Int32) : Prop := (∀ s, s < 34 → iu s = 0 ∨ iu s = 1) ∧ ∃ (c : Nat) (q : Nat → Nat), c ≤ m ∧ ∀ s, s < 34 → iu s = 1 → ∃ i, i < c ∧ q i = s
/-- the node i, on both sides; sz is its size -/
def sc_nd (sz : Nat → Nat) (kd lb s2 c1 c2 c3 fv kd' a2' c1' c2' c3' : Nat → Int32) (i : Nat) : Prop :=
  (1 ≤ sz i ∧ sz i ≤ 32) ∧
  ((kd i = 0 ∧ kd' i = 1) ∨
   (kd i = 1 ∧ kd' i = 2 ∧ ∃ x, x < 8 ∧ lb i = nI x ∧ bt (fv i) x = true) ∨
   (kd i = 2 ∧ kd' i = 3 ∧ ∃ x b, x < 8 ∧ b < i ∧ lb i = nI x ∧ c1 i = nI b ∧ c1' i = nI b ∧ sz i = 1 + sz b ∧ ∀ y, y < 8 → bt (fv b) y = true → y ≠ x → bt (fv i) y = true) ∨
   (((kd i = 3 ∧ kd' i = 4) ∨ (kd i = 4 ∧ kd' i = 5)) ∧ ∃ a b, a < i ∧ b < i ∧ c1 i = nI a ∧ c2 i = nI b ∧ c1' i = nI a ∧ c2' i = nI b ∧ sz i = 1 + sz a + sz b ∧ (∀ y, y < 8 → bt (fv a) y = true → bt (fv i) y = true) ∧ ∀ y, y < 8 → bt (fv b) y = true → bt (fv i) y = true) ∨
   (kd i = 5 ∧ kd' i = 6 ∧ ∃ a b e, a < i ∧ b < i ∧ e < i ∧ c1 i = nI a ∧ c2 i = nI b ∧ c3 i = nI e ∧ c1' i = nI a ∧ c2' i = nI b ∧ c3' i = nI e ∧ sz i = 1 + sz a + sz b + sz e ∧ (∀ y, y < 8 → bt (fv a) y = true → bt (fv i) y = true) ∧ (∀ y, y < 8 → bt (fv b) y = true → bt (fv i) y = true) ∧ ∀ y, y < 8 → bt (fv e) y = true → bt (fv i) y = true) ∨
   (kd i = 6 ∧ kd' i = 7 ∧ ∃ x a b, x < 8 ∧ a < i ∧ b < i ∧ lb i = nI x ∧ c1 i = nI a ∧ c2 i = nI b ∧ c1' i = nI a ∧ c2' i = nI b ∧ sz i = 1 + sz a + sz b ∧ (∀ y, y < 8 → bt (fv a) y = true → bt (fv i) y = true) ∧ ∀ y, y < 8 → bt (fv b) y = true → y ≠ x → bt (fv i) y = true) ∨
   (kd i = 7 ∧ kd' i = 8 ∧ ∃ x l b, x < 8 ∧ l < i ∧ b < i ∧ lb i = nI x ∧ kd l = 2 ∧ c1 i = nI l ∧ c2 i = nI b ∧ c1' i = nI l ∧ c2' i = -1 ∧ c3' i = nI b ∧ sz i = 1 + sz l + sz b ∧ (∀ y, y < 8 → bt (fv l) y = true → y ≠ x → bt (fv i) y = true) ∧ ∀ y, y < 8 → bt (fv b) y = true → y ≠ x → bt (fv i) y = true) ∨
   (kd i = 8 ∧ kd' i = 8 ∧ ∃ x z l m b, x < 8 ∧ z < 8 ∧ x ≠ z ∧ l < i ∧ m < i ∧ b < i ∧ lb i = nI x ∧ s2 i = nI z ∧ a2' i = nI z ∧ kd l = 2 ∧ kd m = 2 ∧ c1 i = nI l ∧ c2 i = nI m ∧ c3 i = nI b ∧ c1' i = nI l ∧ c2' i = nI m ∧ c3' i = nI b ∧ sz i = 1 + sz l + sz m + sz b ∧ (∀ y, y < 8 → bt (fv l) y = true → y ≠ x → y ≠ z → bt (fv i) y = true) ∧ (∀ y, y < 8 → bt (fv m) y = true → y ≠ x → y ≠ z → bt (fv i) y = true) ∧ ∀ y, y < 8 → bt (fv b) y = true → y ≠ x → y ≠ z → bt (fv i) y = true))
/-- one frame on both sides; w is its weight -/
def sc_FO (g : Nat → Nat) (U : Nat → Prop) (n0 : Nat) (sz : Nat → Nat) (lb c2 c3 fv c2' c3' fk fn fvl fc gk gn gek gev gvk gvv : Nat → Int32) (i w : Nat) : Prop :=
  ∃ n, n < n0 ∧ fn i = nI n ∧ gn i = nI n ∧
  ((((fk i = 0 ∧ gk i = 1) ∨ (fk i = 2 ∧ gk i = 3)) ∧ ∃ b, b < n0 ∧ c2 n = nI b ∧ c2' n = nI b ∧ w = 3 * sz b + 2 ∧ sc_RW g U (fv b) (fun y => fvl (i * 8 + y)) (fc i) (fun y => gek (i * 8 + y)) (fun y => gev (i * 8 + y)) ∧ sc_CM (fv b) (fc i)) ∨
   (((fk i = 1 ∧ gk i = 2) ∨ (fk i = 3 ∧ gk i = 4)) ∧ w = 1 ∧ ∃ c, fc i = sc_bi c ∧ sc_VR g U (fvl (i * 8)) c (gvk i) (gvv i)) ∨
   (fk i = 4 ∧ gk i = 5 ∧ ∃ b e, b < n0 ∧ e < n0 ∧ c2 n = nI b ∧ c2' n = nI b ∧ c3 n = nI e ∧ c3' n = nI e ∧ w = 3 * (sz b + sz e) + 1 ∧ sc_RW g U (fv b ||| fv e) (fun y => fvl (i * 8 + y)) (fc i) (fun y => gek (i * 8 + y)) (fun y => gev (i * 8 + y)) ∧ sc_CM (fv b ||| fv e) (fc i)) ∨
   (fk i = 5 ∧ gk i = 6 ∧ ∃ x b, x < 8 ∧ b < n0 ∧ lb n = nI x ∧ c2 n = nI b ∧ c2' n = nI b ∧ w = 3 * sz b + 1 ∧ sc_RW g U (fv b &&& (((1 : Int32) <<< (nI x &&& 31)) ^^^ (-1))) (fun y => fvl (i * 8 + y)) (fc i) (fun y => gek (i * 8 + y)) (fun y => gev (i * 8 + y)) ∧ sc_CM (fv b &&& (((1 : Int32) <<< (nI x &&& 31)) ^^^ (-1))) (fc i)))
end
section
/-! ===== what keeps the relation ===== -/
theorem sc_VR_m {g g' : Nat → Nat} {U U' : Nat → Prop} {v k w : Int32} {c : Bool} (h : sc_VR g U v c k w) (m : ∀ s, U s → U' s ∧ g' s = g s) : sc_VR g' U' v c k w := by
  rcases h with h | ⟨h1, h2, s, hs, e1, e2⟩
  · exact Or.inl h
  · exact Or.inr ⟨h1, h2, s, (m s hs).1, e1, by rw [(m s hs).2]; exact e2⟩
theorem sc_VR_r {g : Nat → Nat} {U U' : Nat → Prop} {v k w : Int32} {c : Bool} (h : sc_VR g U v c k w) (m : c = true → ∀ s, U s → v = nI s → U' s) : sc_VR g U' v c k w := by
  rcases h with h | ⟨h1, h2, s, hs, e1, e2⟩
  · exact Or.inl h
  · exact Or.inr ⟨h1, h2, s, m h1 s hs e1, e1, e2⟩
theorem sc_RW_m {g g' : Nat → Nat} {U U' : Nat → Prop} {m c : Int32} {r k w : Nat → Int32} (h : sc_RW g U m r c k w) (hm : ∀ s, U s → U' s ∧ g' s = g s) : sc_RW g' U' m r c k w := fun y hy hb => sc_VR_m (h y hy hb) hm
theorem sc_RW_r {g : Nat → Nat} {U U' : Nat → Prop} {m c : Int32} {r k w : Nat → Int32} (h : sc_RW g U m r c k w) (hm : ∀ y s, y < 8 → bt m y = true → bt c y = true → U s → r y = nI s → U' s) : sc_RW g U' m r c k w := fun y hy hb => sc_VR_r (h y hy hb) (fun hc s hs e => hm y s hy hb hc hs e)
/-- rows that agree where they are asked -/
theorem sc_RW_c {g : Nat → Nat} {U : Nat → Prop} {m c : Int32} {r r' k k' w w' : Nat → Int32} (h : sc_RW g U m r c k w) (hr : ∀ y, y < 8 → r' y = r y) (hk : ∀ y, y < 8 → k' y = k y) (hw : ∀ y, y < 8 → w' y = w y) : sc_RW g U m r' c k' w' := by
  intro y hy hb
  rw [hr y hy, hk y hy, hw y hy]
  exact h y hy hb
/-- fewer are asked, and the mask is cut -/
theorem sc_RW_a {g : Nat → Nat} {U : Nat → Prop} {m m' c c' : Int32} {r k w : Nat → Int32} (h : sc_RW g U m r c k w) (hm : ∀ y, y < 8 → bt m' y = true → bt m y = true) (hc : ∀ y, y < 8 → bt m' y = true → bt c' y = bt c y) : sc_RW g U m' r c' k w := by
  intro y hy hb
  rw [hc y hy hb]
  exact h y hy (hm y hy hb)
/-- a variable is bound -/
theorem sc_RW_b {g : Nat → Nat} {U : Nat → Prop} {m m' c c' : Int32} {r k w : Nat → Int32} {x : Nat} {v p q : Int32} {b : Bool} (h : sc_RW g U m r c k w) (hv : sc_VR g U v b p q) (hm : ∀ y, y < 8 → bt m' y = true → y ≠ x → bt m y = true) (hc : ∀ y, y < 8 → y ≠ x → bt c' y = bt c y) (hx : bt c' x = b) : sc_RW g U m' (upd r x v) c' (upd k x p) (upd w x q) := by
  intro y hy hb
  by_cases e : y = x
  · subst e
    rw [pk_us, pk_us, pk_us, hx]
    exact hv
  · rw [pk_un e, pk_un e, pk_un e, hc y hy e]
    exact h y hy (hm y hy hb e)
theorem sc_HN_m {g g' : Nat → Nat} {U U' : Nat → Prop} {n0 : Nat} {kd fv sl slv slc cl ck cv : Nat → Int32} {s : Nat} (h : sc_HN g U n0 kd fv sl slv slc cl ck cv s) (hm : ∀ s, U s → U' s ∧ g' s = g s) (hs : U s) : sc_HN g' U' n0 kd fv sl slv slc cl ck cv s := by
  obtain ⟨l, h1, h2, h3, h4, h5, h6, h7⟩ := h
  have e := (hm s hs).2
  unfold sc_HN
  rw [e]
  exact ⟨l, h1, h2, h3, h4, sc_RW_m h5 hm, h6, h7⟩
/-- the arrays agree at this closure -/
theorem sc_HN_c {g : Nat → Nat} {U : Nat → Prop} {n0 : Nat} {kd fv sl slv slc cl ck cv sl' slv' slc' cl' ck' cv' : Nat → Int32} {s : Nat} (h : sc_HN g U n0 kd fv sl slv slc cl ck cv s) (e1 : sl' s = sl s) (e2 : ∀ y, y < 8 → slv' (s * 8 + y) = slv (s * 8 + y)) (e3 : slc' s = slc s) (e4 : cl' (g s) = cl (g s)) (e5 : ∀ y, y < 8 → ck' (g s * 8 + y) = ck (g s * 8 + y)) (e6 : ∀ y, y < 8 → cv' (g s * 8 + y) = cv (g s * 8 + y)) : sc_HN g U n0 kd fv sl' slv' slc' cl' ck' cv' s := by
  obtain ⟨l, h1, h2, h3, h4, h5, h6, h7⟩ := h
  refine ⟨l, h1, h2, e1.trans h3, e4.trans h4, ?_, by rw [e3]; exact h6, fun y hy hb => by rw [e5 y hy]; exact h7 y hy hb⟩
  rw [e3]
  exact sc_RW_c h5 e2 e5 e6
theorem sc_FO_m {g g' : Nat → Nat} {U U' : Nat → Prop} {n0 : Nat} {sz : Nat → Nat} {lb c2 c3 fv c2' c3' fk fn fvl fc gk gn gek gev gvk gvv : Nat → Int32} {i w : Nat} (h : sc_FO g U n0 sz lb c2 c3 fv c2' c3' fk fn fvl fc gk gn gek gev gvk gvv i w) (hm : ∀ s, U s → U' s ∧ g' s = g s) : sc_FO g' U' n0 sz lb c2 c3 fv c2' c3' fk fn fvl fc gk gn gek gev gvk gvv i w := by
  obtain ⟨n, h1, h2, h3, h4⟩ := h
  refine ⟨n, h1, h2, h3, ?_⟩
  rcases h4 with ⟨k, b, a1, a2, a3, a4, a5, a6⟩ | ⟨k, a1, c, a2, a3⟩ | ⟨k1, k2, b, e, a1, a2, a3, a4, a5, a6, a7, a8, a9⟩ | ⟨k1, k2, x, b, a1, a2, a3, a4, a5, a6, a7, a8⟩
  · exact Or.inl ⟨k, b, a1, a2, a3, a4, sc_RW_m a5 hm, a6⟩
  · exact Or.inr (Or.inl ⟨k, a1, c, a2, sc_VR_m a3 hm⟩)
  · exact Or.inr (Or.inr (Or.inl ⟨k1, k2, b, e, a1, a2, a3, a4, a5, a6, a7, sc_RW_m a8 hm, a9⟩))
  · exact Or.inr (Or.inr (Or.inr ⟨k1, k2, x, b, a1, a2, a3, a4, a5, a6, sc_RW_m a7 hm, a8⟩))
/-- what a frame holds alive on the component's side -/
def sc_FR (fvl fc : Nat → Int32) (i s : Nat) : Prop := s < 34 ∧ ∃ y, y < 8 ∧ bt (fc i) y = true ∧ fvl (i * 8 + y) = nI s
/-- what a closure holds alive there -/
def sc_EX (slv slc : Nat → Int32) (s t : Nat) : Prop := t < 34 ∧ ∃ y, y < 8 ∧ bt (slc s) y = true ∧ slv (s * 8 + y) = nI t
theorem sc_bi0 (c : Bool) : bt (sc_bi c) 0 = c := by cases c <;> decide
theorem sc_bi1 (c : Bool) : ∀ y, y < 8 → bt (sc_bi c) y = true → y = 0 ∧ c = true := by cases c <;> decide +kernel
theorem sc_FO_r {g : Nat → Nat} {U U' : Nat → Prop} {n0 : Nat} {sz : Nat → Nat} {lb c2 c3 fv c2' c3' fk fn fvl fc gk gn gek gev gvk gvv : Nat → Int32} {i w : Nat} (h : sc_FO g U n0 sz lb c2 c3 fv c2' c3' fk fn fvl fc gk gn gek gev gvk gvv i w) (hU : ∀ s, U s → s < 34) (hm : ∀ s, sc_FR fvl fc i s → U' s) : sc_FO g U' n0 sz lb c2 c3 fv c2' c3' fk fn fvl fc gk gn gek gev gvk gvv i w := by
  obtain ⟨n, h1, h2, h3, h4⟩ := h
  refine ⟨n, h1, h2, h3, ?_⟩
  rcases h4 with ⟨k, b, a1, a2, a3, a4, a5, a6⟩ | ⟨k, a1, c, a2, a3⟩ | ⟨k1, k2, b, e, a1, a2, a3, a4, a5, a6, a7, a8, a9⟩ | ⟨k1, k2, x, b, a1, a2, a3, a4, a5, a6, a7, a8⟩
  · exact Or.inl ⟨k, b, a1, a2, a3, a4, sc_RW_r a5 (fun y s hy _ hc hs e => hm s ⟨hU s hs, y, hy, hc, e⟩), a6⟩
  · exact Or.inr (Or.inl ⟨k, a1, c, a2, sc_VR_r a3 (fun hc s hs e => hm s ⟨hU s hs, 0, by omega, by rw [a2, sc_bi0]; exact hc, e⟩)⟩)
  · exact Or.inr (Or.inr (Or.inl ⟨k1, k2, b, e, a1, a2, a3, a4, a5, a6, a7, sc_RW_r a8 (fun y s hy _ hc hs e => hm s ⟨hU s hs, y, hy, hc, e⟩), a9⟩))
  · exact Or.inr (Or.inr (Or.inr ⟨k1, k2, x, b, a1, a2, a3, a4, a5, a6, sc_RW_r a7 (fun y s hy _ hc hs e => hm s ⟨hU s hs, y, hy, hc, e⟩), a8⟩))
theorem sc_nIi {a b : Nat} (h : nI a = nI b) (ha : a < 2 ^ 31) (hb : b < 2 ^ 31) : a = b := (nI_eq ha hb).mp h
/-- a row's closures are known -/
theorem sc_RW_k {g : Nat → Nat} {U : Nat → Prop} {m c : Int32} {r k w : Nat → Int32} (h : sc_RW g U m r c k w) (hU : ∀ s, U s → s < 34) {y s : Nat} (hy : y < 8) (hm : bt m y = true) (hc : bt c y = true) (hs : s < 34) (e : r y = nI s) : U s ∧ k y = 2 ∧ w y = nI (g s) := by
  rcases h y hy hm with ⟨z, _⟩ | ⟨_, h2, t, ht, e1, e2⟩
  · rw [hc] at z; cases z
  · have : s = t := sc_nIi (e.symm.trans e1) (by omega) (by have := hU t ht; omega)
    subst this
    exact ⟨ht, h2, e2⟩
theorem sc_FO_k {g : Nat → Nat} {U : Nat → Prop} {n0 : Nat} {sz : Nat → Nat} {lb c2 c3 fv c2' c3' fk fn fvl fc gk gn gek gev gvk gvv : Nat → Int32} {i w : Nat} (h : sc_FO g U n0 sz lb c2 c3 fv c2' c3' fk fn fvl fc gk gn gek gev gvk gvv i w) (hU : ∀ s, U s → s < 34) : ∀ s, sc_FR fvl fc i s → U s := by
  intro s hs
  obtain ⟨hs, y, hy, hc, e⟩ := hs
  obtain ⟨n, h1, h2, h3, h4⟩ := h
  rcases h4 with ⟨k, b, a1, a2, a3, a4, a5, a6⟩ | ⟨k, a1, c, a2, a3⟩ | ⟨k1, k2, b, e, a1, a2, a3, a4, a5, a6, a7, a8, a9⟩ | ⟨k1, k2, x, b, a1, a2, a3, a4, a5, a6, a7, a8⟩
  · exact (sc_RW_k a5 hU hy (a6 y hy hc) hc hs e).1
  · rw [a2] at hc
    obtain ⟨rfl, rfl⟩ := sc_bi1 c y hy hc
    rcases a3 with ⟨z, _⟩ | ⟨_, _, t, ht, e1, _⟩
    · cases z
    · have : s = t := sc_nIi (e.symm.trans e1) (by omega) (by have := hU t ht; omega)
      exact this ▸ ht
  · exact (sc_RW_k a8 hU hy (a9 y hy hc) hc hs (by assumption)).1
  · exact (sc_RW_k a7 hU hy (a8 y hy hc) hc hs e).1
theorem sc_HN_k {g : Nat → Nat} {U : Nat → Prop} {n0 : Nat} {kd fv sl slv slc cl ck cv : Nat → Int32} {s t : Nat} (h : sc_HN g U n0 kd fv sl slv slc cl ck cv s) (hU : ∀ s, U s → s < 34) (e : sc_EX slv slc s t) : U t := by
  obtain ⟨l, h1, h2, h3, h4, h5, h6, h7⟩ := h
  obtain ⟨ht, y, hy, hc, ev⟩ := e
  exact (sc_RW_k h5 hU hy (h6 y hy hc) hc ht ev).1
theorem sc_HN_r {g : Nat → Nat} {U U' : Nat → Prop} {n0 : Nat} {kd fv sl slv slc cl ck cv : Nat → Int32} {s : Nat} (h : sc_HN g U n0 kd fv sl slv slc cl ck cv s) (hU : ∀ s, U s → s < 34) (hm : ∀ t, sc_EX slv slc s t → U' t) : sc_HN g U' n0 kd fv sl slv slc cl ck cv s := by
  obtain ⟨l, h1, h2, h3, h4, h5, h6, h7⟩ := h
  exact ⟨l, h1, h2, h3, h4, sc_RW_r h5 (fun y t hy _ hc ht e => hm t ⟨hU t ht, y, hy, hc, e⟩), h6, h7⟩
theorem sc_HB_n {g : Nat → Nat} {U : Nat → Prop} {iu : Nat → Int32} {top s0 : Nat} (h : sc_HB g U iu top) (hf : iu s0 = 0) : ¬ U s0 := by
  intro hU
  have := (h.1 s0 hU).2.1
  rw [hf] at this
  exact absurd this (by decide)
/-- a slot is taken: it stands for the reference's next closure -/
theorem sc_HB_t {g : Nat → Nat} {U : Nat → Prop} {iu : Nat → Int32} {top s0 : Nat} (h : sc_HB g U iu top) (h0 : s0 < 34) (hf : iu s0 = 0) : sc_HB (fun s => if s = s0 then top else g s) (fun s => U s ∨ s = s0) (upd iu s0 1) (top + 1) := by
  have hn := sc_HB_n h hf
  constructor
  · intro s hs
    by_cases e : s = s0
    · subst e
      exact ⟨h0, pk_us, by dsimp only; rw [if_pos rfl]; omega⟩
    · have hU : U s := hs.resolve_right e
      have := h.1 s hU
      exact ⟨this.1, by rw [pk_un e]; exact this.2.1, by dsimp only; rw [if_neg e]; omega⟩
  · intro s t hs ht hg
    dsimp only at hg
    by_cases e : s = s0
    · by_cases e2 : t = s0
      · rw [e, e2]
      · rw [if_pos e, if_neg e2] at hg
        have := (h.1 t (ht.resolve_right e2)).2.2
        omega
    · by_cases e2 : t = s0
      · rw [if_neg e, if_pos e2] at hg
        have := (h.1 s (hs.resolve_right e)).2.2
        omega
      · rw [if_neg e, if_neg e2] at hg
        exact h.2 s t (hs.resolve_right e) (ht.resolve_right e2) hg
theorem sc_HB_e {g : Nat → Nat} {U : Nat → Prop} {iu : Nat → Int32} {top s0 : Nat} (h : sc_HB g U iu top) (hf : iu s0 = 0) : ∀ s, U s → (U s ∨ s = s0) ∧ (if s = s0 then top else g s) = g s := by
  intro s hs
  refine ⟨Or.inl hs, if_neg ?_⟩
  intro e
  exact sc_HB_n h hf (e ▸ hs)
/-- a closure is filled from the environment -/
theorem sc_HN_f {g : Nat → Nat} {U : Nat → Prop} {n0 l s : Nat} {kd fv sl slv slc cl ck cv en yk yv : Nat → Int32} {ec : Int32} (h : sc_RW g U (fv l) en ec yk yv) (h1 : l < n0) (h2 : kd l = 2) (h3 : sl s = nI l) (h4 : cl (g s) = nI l) (e1 : ∀ y, y < 8 → slv (s * 8 + y) = en y) (e2 : slc s = ec &&& fv l) (e3 : ∀ y, y < 8 → ck (g s * 8 + y) = if bt (fv l) y = true then yk y else 0) (e4 : ∀ y, y < 8 → bt (fv l) y = true → cv (g s * 8 + y) = yv y) : sc_HN g U n0 kd fv sl slv slc cl ck cv s := by
  refine ⟨l, h1, h2, h3, h4, ?_, ?_, ?_⟩
  · intro y hy hb
    dsimp only
    rw [e1 y hy, e2, b_and, hb, Bool.and_true, e3 y hy, if_pos hb, e4 y hy hb]
    exact h y hy hb
  · intro y hy hc
    rw [e2, b_and] at hc
    exact (Bool.and_eq_true_iff.mp hc).2
  · intro y hy hb
    rw [e3 y hy, if_neg (by rw [hb]; decide)]
    decide
/-- after a check: only what was reached is known -/
theorem sc_HB_r {g : Nat → Nat} {U U' : Nat → Prop} {iu iu' : Nat → Int32} {top : Nat} (h : sc_HB g U iu top) (hm : ∀ s, U' s → U s ∧ iu' s = 1) : sc_HB g U' iu' top := ⟨fun s hs => ⟨(h.1 s (hm s hs).1).1, (hm s hs).2, (h.1 s (hm s hs).1).2.2⟩, fun s t hs ht => h.2 s t (hm s hs).1 (hm t ht).1⟩
/-- a free slot is left -/
theorem sc_IU_f {m : Nat} {iu : Nat → Int32} (h : sc_IU m iu) (hm : m < 34) : ∃ s, s < 34 ∧ iu s = 0 := by
  obtain ⟨h1, c, q, hc, hq⟩ := h
  apply Classical.byContradiction
  intro hn
  have hp : 34 ≤ c := sc_pig (T := fun s i => q i = s) (fun s hs => hq s hs ((h1 s hs).resolve_left (fun z => hn ⟨s, hs, z⟩))) (fun i k j _ _ a b => a.symm.trans b)
  omega
theorem sc_IU_t {m s0 : Nat} {iu : Nat → Int32} (h : sc_IU m iu) : sc_IU (m + 1) (upd iu s0 1) := by
  obtain ⟨h1, c, q, hc, hq⟩ := h
  refine ⟨?_, c + 1, fun i => if i = c then s0 else q i, by omega, ?_⟩
  · intro s hs
    by_cases e : s = s0
    · subst e; exact Or.inr pk_us
    · rw [pk_un e]; exact h1 s hs
  · intro s hs hu
    by_cases e : s = s0
    · exact ⟨c, by omega, by dsimp only; rw [if_pos rfl, e]⟩
    · rw [pk_un e] at hu
      obtain ⟨i, hi, e2⟩ := hq s hs hu
      exact ⟨i, by omega, by dsimp only; rw [if_neg (by omega)]; exact e2⟩
/-- a counted loop in the form 'there is one end state such that, whatever is asked of it, ..' -/
theorem sc_loop {P S : Type} (W : P → Nat → Nat → S → Prop) (X : P → S → Prop) (I : Nat → S → Prop) (e : Nat) (hx : ∀ p n s, I e s → X p s → W p (n + 1) e s) (hs : ∀ i s, i < e → I i s → ∃ s', I (i + 1) s' ∧ ∀ p n, W p n (i + 1) s' → W p (n + 1) i s) : ∀ d i s, i + d = e → I i s → ∃ s', I e s' ∧ ∀ p n, d < n → X p s' → W p n i s := by
  intro d
  induction d with
  | zero =>
    intro i s hi h
    have : i = e := by omega
    subst this
    refine ⟨s, h, fun p n hn hX => ?_⟩
    obtain ⟨m, rfl⟩ : ∃ m, n = m + 1 := ⟨n - 1, by omega⟩
    exact hx p m s h hX
  | succ d ih =>
    intro i s hi h
    obtain ⟨s1, h1, k1⟩ := hs i s (by omega) h
    obtain ⟨s2, h2, k2⟩ := ih (i + 1) s1 (by omega) h1
    refine ⟨s2, h2, fun p n hn hX => ?_⟩
    obtain ⟨m, rfl⟩ : ∃ m, n = m + 1 := ⟨n - 1, by omega⟩
    exact k1 p m (k2 p m (by omega) hX)
end
section
/-! ===== the component's walks: rows, slots ===== -/
/-- a with f's first i values from b on -/
def sc_wr (a : Nat → Int32) (b : Nat) (f : Nat → Int32) (i : Nat) : Nat → Int32 := fun j => if b ≤ j ∧ j < b + i then f (j - b) else a j
theorem sc_wr0 {a : Nat → Int32} {b : Nat} {f : Nat → Int32} : sc_wr a b f 0 = a := by
  funext j
  unfold sc_wr
  rw [if_neg (by omega)]
theorem sc_wr_u {a : Nat → Int32} {b : Nat} {f : Nat → Int32} {i k : Nat} {v : Int32} (hk : k = b + i) (hv : v = f i) : upd (sc_wr a b f i) k v = sc_wr a b f (i + 1) := by
  subst hk hv
  funext j
  unfold upd sc_wr
  by_cases e : j = b + i
  · subst e
    rw [if_pos rfl, if_pos (by omega)]
    exact congrArg f (by omega)
  · rw [if_neg e]
    by_cases h : b ≤ j ∧ j < b + i
    · rw [if_pos h, if_pos (by omega)]
    · rw [if_neg h, if_neg (by omega)]
theorem sc_wr_i {a : Nat → Int32} {b y n : Nat} {f : Nat → Int32} (h : y < n) : sc_wr a b f n (b + y) = f y := by
  unfold sc_wr
  rw [if_pos (by omega)]
  exact congrArg f (by omega)
theorem sc_wr_z {a : Nat → Int32} {y n : Nat} {f : Nat → Int32} (h : y < n) : sc_wr a 0 f n y = f y := by
  have := sc_wr_i (a := a) (b := 0) (f := f) h
  rw [Nat.zero_add] at this
  exact this
theorem sc_wr_o {a : Nat → Int32} {b j n : Nat} {f : Nat → Int32} (h : j < b ∨ b + n ≤ j) : sc_wr a b f n j = a j := by
  unfold sc_wr
  rw [if_neg (by omega)]
/-- another row of eight is not touched -/
theorem sc_wr_r {a : Nat → Int32} {s t y : Nat} {f : Nat → Int32} (h : s ≠ t) (hy : y < 8) : sc_wr a (t * 8) f 8 (s * 8 + y) = a (s * 8 + y) := sc_wr_o (by omega)
theorem sc_nb0 : vp_nar .boolean 0 = 0 := by decide +kernel
theorem sc_nb1 : vp_nar .boolean 1 = 1 := by decide +kernel
theorem sc_ad {a b : Nat} (h : a + b < 2 ^ 31) : (nI a + nI b).toNatClampNeg = a + b := by rw [nI_add]; exact nI_clamp h
theorem sc_m8 (a : Nat) : nI a * 8 = nI (a * 8) := pk_mul a 8
/-- the mask after a binding -/
def sc_bm (m : Int32) (x : Nat) : Bool → Int32
  | true => m ||| ((1 : Int32) <<< (nI x &&& 31))
  | false => m &&& (((1 : Int32) <<< (nI x &&& 31)) ^^^ (-1))
theorem sc_bm_s {m : Int32} {x : Nat} {c : Bool} (hx : x < 8) : bt (sc_bm m x c) x = c := by
  cases c
  · rw [sc_bm, sc_bc hx (by omega)]; simp
  · rw [sc_bm, sc_bs hx (by omega)]; simp
theorem sc_bm_o {m : Int32} {x y : Nat} {c : Bool} (hx : x < 8) (hy : y < 8) (e : y ≠ x) : bt (sc_bm m x c) y = bt m y := by
  cases c
  · rw [sc_bm, sc_bc hx (by omega)]; simp [e]
  · rw [sc_bm, sc_bs hx (by omega)]; simp [e]
section
variable {fu ll dl nc ss hk hv ca pk st ev cu ec va vc dp rc : Int32} {nk nl n2 k1 k2 k3 nf sk en fk fn fl fm iu sl sw sm rs : Nat → Int32}
theorem xw_bind {post : SX → Prop} {x : Nat} (hx : x < 8) (b : Int32) (c : Bool) (h : post (fu, ll, dl, nc, ss, hk, hv, ca, pk, st, ev, cu, sc_bm ec x c, va, vc, dp, rc, nk, nl, n2, k1, k2, k3, nf, sk, upd en x b, fk, fn, fl, fm, iu, sl, sw, sm, rs)) : wpX_bind post (fu, ll, dl, nc, ss, hk, hv, ca, pk, st, ev, cu, ec, va, vc, dp, rc, nk, nl, n2, k1, k2, k3, nf, sk, en, fk, fn, fl, fm, iu, sl, sw, sm, rs) (nI x) b (sc_bi c) := by
  unfold wpX_bind
  refine nm_e ⟨vp_in_nI hx (by omega), nm_r (e' := upd en x b) (by rw [nI_clamp (by omega)]) ?_⟩
  cases c
  · exact br_t rfl (nm_e h)
  · exact br_f (by decide) (nm_e h)
theorem xw_saveF_l {post : SX → Prop} {b : Nat} (hb : b + 8 ≤ 256) (h : post (fu, ll, dl, nc, ss, hk, hv, ca, pk, st, ev, cu, ec, va, vc, dp, rc, nk, nl, n2, k1, k2, k3, nf, sk, en, fk, fn, sc_wr fl b en 8, fm, iu, sl, sw, sm, rs)) : ∀ d i, i + d = 8 → wX_saveEnv__frameValues_2 post (nI b) fu ll dl nc ss hk hv ca pk st ev cu ec va vc dp rc (d + 1) (nI i) nk nl n2 k1 k2 k3 nf sk en fk fn (sc_wr fl b en i) fm iu sl sw sm rs := by
  intro d
  induction d with
  | zero =>
    intro i hi
    have : i = 8 := by omega
    subst this
    exact br_t (nI_le (a := 8) (b := 8) (by omega) (by omega)) h
  | succ d ih =>
    intro i hi
    refine br_f (nI_ge (a := i) (b := 8) (by omega) (by omega)) ⟨vp_in_nI (by omega) (by omega), pk_in (b + i) 256 (by omega) (nI_add b i), ?_⟩
    refine nm_r (e' := sc_wr fl b en (i + 1)) (sc_wr_u (sc_ad (by omega)) (congrArg en (nI_clamp (by omega)))) ?_
    exact nm_r (nI_1 i) (ih (i + 1) (by omega))
theorem xw_saveF {post : SX → Prop} {b : Nat} (hb : b + 8 ≤ 256) (h : post (fu, ll, dl, nc, ss, hk, hv, ca, pk, st, ev, cu, ec, va, vc, dp, rc, nk, nl, n2, k1, k2, k3, nf, sk, en, fk, fn, sc_wr fl b en 8, fm, iu, sl, sw, sm, rs)) : wpX_saveEnv__frameValues post (fu, ll, dl, nc, ss, hk, hv, ca, pk, st, ev, cu, ec, va, vc, dp, rc, nk, nl, n2, k1, k2, k3, nf, sk, en, fk, fn, fl, fm, iu, sl, sw, sm, rs) (nI b) := by
  have := xw_saveF_l hb h 8 0 (by omega)
  rw [sc_wr0] at this
  exact ⟨9, this⟩
theorem xw_saveS_l {post : SX → Prop} {b : Nat} (hb : b + 8 ≤ 272) (h : post (fu, ll, dl, nc, ss, hk, hv, ca, pk, st, ev, cu, ec, va, vc, dp, rc, nk, nl, n2, k1, k2, k3, nf, sk, en, fk, fn, fl, fm, iu, sl, sc_wr sw b en 8, sm, rs)) : ∀ d i, i + d = 8 → wX_saveEnv__slotValues_2 post (nI b) fu ll dl nc ss hk hv ca pk st ev cu ec va vc dp rc (d + 1) (nI i) nk nl n2 k1 k2 k3 nf sk en fk fn fl fm iu sl (sc_wr sw b en i) sm rs := by
  intro d
  induction d with
  | zero =>
    intro i hi
    have : i = 8 := by omega
    subst this
    exact br_t (nI_le (a := 8) (b := 8) (by omega) (by omega)) h
  | succ d ih =>
    intro i hi
    refine br_f (nI_ge (a := i) (b := 8) (by omega) (by omega)) ⟨vp_in_nI (by omega) (by omega), pk_in (b + i) 272 (by omega) (nI_add b i), ?_⟩
    refine nm_r (e' := sc_wr sw b en (i + 1)) (sc_wr_u (sc_ad (by omega)) (congrArg en (nI_clamp (by omega)))) ?_
    exact nm_r (nI_1 i) (ih (i + 1) (by omega))
theorem xw_saveS {post : SX → Prop} {b : Nat} (hb : b + 8 ≤ 272) (h : post (fu, ll, dl, nc, ss, hk, hv, ca, pk, st, ev, cu, ec, va, vc, dp, rc, nk, nl, n2, k1, k2, k3, nf, sk, en, fk, fn, fl, fm, iu, sl, sc_wr sw b en 8, sm, rs)) : wpX_saveEnv__slotValues post (fu, ll, dl, nc, ss, hk, hv, ca, pk, st, ev, cu, ec, va, vc, dp, rc, nk, nl, n2, k1, k2, k3, nf, sk, en, fk, fn, fl, fm, iu, sl, sw, sm, rs) (nI b) := by
  have := xw_saveS_l hb h 8 0 (by omega)
  rw [sc_wr0] at this
  exact ⟨9, this⟩
theorem xw_loadF_l {post : SX → Prop} {b : Nat} {m : Int32} (hb : b + 8 ≤ 256) (h : post (fu, ll, dl, nc, ss, hk, hv, ca, pk, st, ev, cu, m, va, vc, dp, rc, nk, nl, n2, k1, k2, k3, nf, sk, sc_wr en 0 (fun y => fl (b + y)) 8, fk, fn, fl, fm, iu, sl, sw, sm, rs)) : ∀ d i, i + d = 8 → wX_loadEnv__frameValues_3 post (nI b) m fu ll dl nc ss hk hv ca pk st ev cu ec va vc dp rc (d + 1) (nI i) nk nl n2 k1 k2 k3 nf sk (sc_wr en 0 (fun y => fl (b + y)) i) fk fn fl fm iu sl sw sm rs := by
  intro d
  induction d with
  | zero =>
    intro i hi
    have : i = 8 := by omega
    subst this
    exact br_t (nI_le (a := 8) (b := 8) (by omega) (by omega)) h
  | succ d ih =>
    intro i hi
    refine br_f (nI_ge (a := i) (b := 8) (by omega) (by omega)) ⟨pk_in (b + i) 256 (by omega) (nI_add b i), vp_in_nI (by omega) (by omega), ?_⟩
    refine nm_r (e' := sc_wr en 0 (fun y => fl (b + y)) (i + 1)) (sc_wr_u (by rw [nI_clamp (by omega)]; omega) (congrArg fl (sc_ad (by omega)))) ?_
    exact nm_r (nI_1 i) (ih (i + 1) (by omega))
theorem xw_loadF {post : SX → Prop} {b : Nat} {m : Int32} (hb : b + 8 ≤ 256) (h : post (fu, ll, dl, nc, ss, hk, hv, ca, pk, st, ev, cu, m, va, vc, dp, rc, nk, nl, n2, k1, k2, k3, nf, sk, sc_wr en 0 (fun y => fl (b + y)) 8, fk, fn, fl, fm, iu, sl, sw, sm, rs)) : wpX_loadEnv__frameValues post (fu, ll, dl, nc, ss, hk, hv, ca, pk, st, ev, cu, ec, va, vc, dp, rc, nk, nl, n2, k1, k2, k3, nf, sk, en, fk, fn, fl, fm, iu, sl, sw, sm, rs) (nI b) m := by
  have := xw_loadF_l (ec := ec) hb h 8 0 (by omega)
  rw [sc_wr0] at this
  exact ⟨9, this⟩
theorem xw_loadS_l {post : SX → Prop} {b : Nat} {m : Int32} (hb : b + 8 ≤ 272) (h : post (fu, ll, dl, nc, ss, hk, hv, ca, pk, st, ev, cu, m, va, vc, dp, rc, nk, nl, n2, k1, k2, k3, nf, sk, sc_wr en 0 (fun y => sw (b + y)) 8, fk, fn, fl, fm, iu, sl, sw, sm, rs)) : ∀ d i, i + d = 8 → wX_loadEnv__slotValues_3 post (nI b) m fu ll dl nc ss hk hv ca pk st ev cu ec va vc dp rc (d + 1) (nI i) nk nl n2 k1 k2 k3 nf sk (sc_wr en 0 (fun y => sw (b + y)) i) fk fn fl fm iu sl sw sm rs := by
  intro d
  induction d with
  | zero =>
    intro i hi
    have : i = 8 := by omega
    subst this
    exact br_t (nI_le (a := 8) (b := 8) (by omega) (by omega)) h
  | succ d ih =>
    intro i hi
    refine br_f (nI_ge (a := i) (b := 8) (by omega) (by omega)) ⟨pk_in (b + i) 272 (by omega) (nI_add b i), vp_in_nI (by omega) (by omega), ?_⟩
    refine nm_r (e' := sc_wr en 0 (fun y => sw (b + y)) (i + 1)) (sc_wr_u (by rw [nI_clamp (by omega)]; omega) (congrArg sw (sc_ad (by omega)))) ?_
    exact nm_r (nI_1 i) (ih (i + 1) (by omega))
theorem xw_loadS {post : SX → Prop} {b : Nat} {m : Int32} (hb : b + 8 ≤ 272) (h : post (fu, ll, dl, nc, ss, hk, hv, ca, pk, st, ev, cu, m, va, vc, dp, rc, nk, nl, n2, k1, k2, k3, nf, sk, sc_wr en 0 (fun y => sw (b + y)) 8, fk, fn, fl, fm, iu, sl, sw, sm, rs)) : wpX_loadEnv__slotValues post (fu, ll, dl, nc, ss, hk, hv, ca, pk, st, ev, cu, ec, va, vc, dp, rc, nk, nl, n2, k1, k2, k3, nf, sk, en, fk, fn, fl, fm, iu, sl, sw, sm, rs) (nI b) m := by
  have := xw_loadS_l (ec := ec) hb h 8 0 (by omega)
  rw [sc_wr0] at this
  exact ⟨9, this⟩
theorem xw_free_l {post : SX → Prop} (h : post (fu, ll, dl, nc, ss, hk, hv, ca, pk, st, ev, cu, ec, va, vc, dp, rc, nk, nl, n2, k1, k2, k3, nf, sk, en, fk, fn, fl, fm, sc_wr iu 0 (fun _ => 0) 34, sl, sw, sm, rs)) : ∀ d i, i + d = 34 → wX_freeAllSlots_2 post fu ll dl nc ss hk hv ca pk st ev cu ec va vc dp rc (d + 1) (nI i) nk nl n2 k1 k2 k3 nf sk en fk fn fl fm (sc_wr iu 0 (fun _ => 0) i) sl sw sm rs := by
  intro d
  induction d with
  | zero =>
    intro i hi
    have : i = 34 := by omega
    subst this
    exact br_t (nI_le (a := 34) (b := 34) (by omega) (by omega)) h
  | succ d ih =>
    intro i hi
    refine br_f (nI_ge (a := i) (b := 34) (by omega) (by omega)) ⟨vp_in_nI (by omega) (by omega), ?_⟩
    refine nm_r (e' := sc_wr iu 0 (fun _ => 0) (i + 1)) (sc_wr_u (by rw [nI_clamp (by omega)]; omega) sc_nb0) ?_
    exact nm_r (nI_1 i) (ih (i + 1) (by omega))
theorem xw_free {post : SX → Prop} (h : post (fu, ll, dl, nc, ss, hk, hv, ca, pk, st, ev, cu, ec, va, vc, dp, rc, nk, nl, n2, k1, k2, k3, nf, sk, en, fk, fn, fl, fm, sc_wr iu 0 (fun _ => 0) 34, sl, sw, sm, rs)) : wpX_freeAllSlots post (fu, ll, dl, nc, ss, hk, hv, ca, pk, st, ev, cu, ec, va, vc, dp, rc, nk, nl, n2, k1, k2, k3, nf, sk, en, fk, fn, fl, fm, iu, sl, sw, sm, rs) := by
  have := xw_free_l h 34 0 (by omega)
  rw [sc_wr0] at this
  exact ⟨35, this⟩
theorem xw_take_l {s : Nat} (hs : s < 34) (hf : iu s = 0) {post : Int32 → SX → Prop} (h : post (nI s) (fu, ll, dl, nc, ss, hk, hv, ca, pk, st, ev, cu, ec, va, vc, dp, rc, nk, nl, n2, k1, k2, k3, nf, sk, en, fk, fn, fl, fm, upd iu s 1, sl, sw, sm, rs)) : ∀ d i, i + d = s → (∀ j, j < s → ¬ iu j = 0) → wX_takeSlot_2 post fu ll dl nc ss hk hv ca pk st ev cu ec va vc dp rc nk nl n2 k1 k2 k3 nf sk en fk fn fl fm iu sl sw sm rs (d + 1) (nI i) := by
  intro d
  induction d with
  | zero =>
    intro i hi hb
    have : i = s := by omega
    subst this
    refine pk_le 33 i (fun _ => ⟨vp_in_nI hs (by omega), nm_r (e' := upd iu i 1) (by rw [nI_clamp (by omega), sc_nb1]) h⟩) (fun _ => ⟨vp_in_nI hs (by omega), br_t (by rw [nI_clamp (by omega)]; exact hf) ⟨vp_in_nI hs (by omega), nm_r (e' := upd iu i 1) (by rw [nI_clamp (by omega), sc_nb1]) h⟩⟩)
  | succ d ih =>
    intro i hi hb
    refine br_f (nI_ge (a := i) (b := 33) (by omega) (by omega)) ⟨vp_in_nI (by omega) (by omega), br_f (by rw [nI_clamp (by omega)]; exact hb i (by omega)) (nm_r (nI_1 i) (ih (i + 1) (by omega) hb))⟩
/-- the slot that is taken: the first free one -/
theorem xw_take (hf : ∃ s, s < 34 ∧ iu s = 0) : ∃ s, s < 34 ∧ iu s = 0 ∧ ∀ post : Int32 → SX → Prop, post (nI s) (fu, ll, dl, nc, ss, hk, hv, ca, pk, st, ev, cu, ec, va, vc, dp, rc, nk, nl, n2, k1, k2, k3, nf, sk, en, fk, fn, fl, fm, upd iu s 1, sl, sw, sm, rs) → wpX_takeSlot post (fu, ll, dl, nc, ss, hk, hv, ca, pk, st, ev, cu, ec, va, vc, dp, rc, nk, nl, n2, k1, k2, k3, nf, sk, en, fk, fn, fl, fm, iu, sl, sw, sm, rs) := by
  obtain ⟨s, hs, hl⟩ := pk_least (fun s => s < 34 ∧ iu s = 0) hf
  refine ⟨s, hs.1, hs.2, fun post h => ⟨s + 1, ?_⟩⟩
  exact xw_take_l hs.1 hs.2 h s 0 (by omega) (fun j hj hz => hl j hj ⟨by omega, hz⟩)
theorem xw_make {post : SX → Prop} {s l : Nat} (hs : s < 34) (hl : l < 32) (h : post (fu, ll, dl, nc, ss, hk, hv, ca, pk, st, ev, cu, ec, va, vc, dp, rc, nk, nl, n2, k1, k2, k3, nf, sk, en, fk, fn, fl, fm, iu, upd sl s (nI l), sc_wr sw (s * 8) en 8, upd sm s (ec &&& nf l), rs)) : wpX_makeClosure post (fu, ll, dl, nc, ss, hk, hv, ca, pk, st, ev, cu, ec, va, vc, dp, rc, nk, nl, n2, k1, k2, k3, nf, sk, en, fk, fn, fl, fm, iu, sl, sw, sm, rs) (nI s) (nI l) := by
  unfold wpX_makeClosure
  refine ⟨vp_in_nI hs (by omega), nm_r (e' := upd sl s (nI l)) (by rw [nI_clamp (by omega)]) ?_⟩
  rw [sc_m8]
  refine xw_saveS (by omega) ?_
  exact ⟨vp_in_nI hl (by omega), vp_in_nI hs (by omega), nm_r (e' := upd sm s (ec &&& nf l)) (by rw [nI_clamp (by omega), nI_clamp (by omega)]) h⟩
end
end
section
/-! ===== the component's live check ===== -/
def sc_in (c : Nat) (q : Nat → Nat) (s : Nat) : Prop := ∃ i, i < c ∧ q i = s
def sc_ex (c : Nat) (q : Nat → Nat) (c' : Nat) (q' : Nat → Nat) : Prop := c ≤ c' ∧ ∀ i, i < c → q' i = q i
theorem sc_ex_r {c : Nat} {q : Nat → Nat} : sc_ex c q c q := ⟨Nat.le_refl c, fun _ _ => rfl⟩
theorem sc_ex_t {c c' c'' : Nat} {q q' q'' : Nat → Nat} (h : sc_ex c q c' q') (h' : sc_ex c' q' c'' q'') : sc_ex c q c'' q'' := ⟨Nat.le_trans h.1 h'.1, fun i hi => (h'.2 i (Nat.lt_of_lt_of_le hi h.1)).trans (h.2 i hi)⟩
theorem sc_ex_in {c c' s : Nat} {q q' : Nat → Nat} (h : sc_ex c q c' q') (hs : sc_in c q s) : sc_in c' q' s := by
  obtain ⟨i, hi, e⟩ := hs
  exact ⟨i, Nat.lt_of_lt_of_le hi h.1, (h.2 i hi).trans e⟩
/-- the slots reached so far: c of them, listed by q -/
def sc_XS (iu rs : Nat → Int32) (rc : Int32) (c : Nat) (q : Nat → Nat) : Prop := rc = nI c ∧ (∀ i, i < c → q i < 34 ∧ rs i = nI (q i)) ∧ (∀ i j, i < c → j < c → q i = q j → i = j) ∧ ∀ s, s < 34 → (iu s = 1 ∧ sc_in c q s) ∨ (iu s = 0 ∧ ¬ sc_in c q s)
theorem sc_XS_b {iu rs : Nat → Int32} {rc : Int32} {c : Nat} {q : Nat → Nat} (h : sc_XS iu rs rc c q) : c ≤ 34 := by
  refine sc_pig (T := fun i j => q i = j) (fun i hi => ⟨q i, (h.2.1 i hi).1, rfl⟩) ?_
  intro i k j hi hk a b
  exact h.2.2.1 i k hi hk (a.trans b.symm)
theorem sc_XS_p {iu rs : Nat → Int32} {rc : Int32} {c s : Nat} {q : Nat → Nat} (h : sc_XS iu rs rc c q) (hs : s < 34) (hn : ¬ sc_in c q s) : sc_XS (upd iu s 1) (upd rs c (nI s)) (nI (c + 1)) (c + 1) (fun i => if i = c then s else q i) := by
  obtain ⟨_, h2, h3, h4⟩ := h
  have ne : ∀ i, i < c → q i ≠ s := fun i hi e => hn ⟨i, hi, e⟩
  refine ⟨rfl, ?_, ?_, ?_⟩
  · intro i hi
    dsimp only
    by_cases e : i = c
    · subst e
      rw [if_pos rfl, pk_us]
      exact ⟨hs, rfl⟩
    · rw [if_neg e, pk_un e]
      exact h2 i (by omega)
  · intro i j hi hj e
    dsimp only at e
    by_cases e1 : i = c
    · by_cases e2 : j = c
      · rw [e1, e2]
      · rw [if_pos e1, if_neg e2] at e
        exact absurd e.symm (ne j (by omega))
    · by_cases e2 : j = c
      · rw [if_neg e1, if_pos e2] at e
        exact absurd e (ne i (by omega))
      · rw [if_neg e1, if_neg e2] at e
        exact h3 i j (by omega) (by omega) e
  · intro t ht
    by_cases e : t = s
    · subst e
      exact Or.inl ⟨pk_us, c, by omega, if_pos rfl⟩
    · rw [pk_un e]
      rcases h4 t ht with ⟨a, i, hi, ei⟩ | ⟨a, b⟩
      · exact Or.inl ⟨a, i, by omega, by dsimp only; rw [if_neg (by omega)]; exact ei⟩
      · refine Or.inr ⟨a, ?_⟩
        intro hin
        obtain ⟨i, hi, ei⟩ := hin
        dsimp only at ei
        by_cases e1 : i = c
        · rw [if_pos e1] at ei
          exact e ei.symm
        · rw [if_neg e1] at ei
          exact b ⟨i, by omega, ei⟩
theorem sc_ex_p {c s : Nat} {q : Nat → Nat} : sc_ex c q (c + 1) (fun i => if i = c then s else q i) := ⟨by omega, fun i hi => if_neg (by omega)⟩
section
variable {fu ll dl nc ss hk hv ca pk st ev cu ec va vc dp rc : Int32} {nk nl n2 k1 k2 k3 nf sk en fk fn fl fm iu sl sw sm rs : Nat → Int32}
theorem xw_reach {c s : Nat} {q : Nat → Nat} (H : sc_XS iu rs rc c q) (hs : s < 34) : ∃ iu' rs' rc' c' q', sc_XS iu' rs' rc' c' q' ∧ sc_ex c q c' q' ∧ sc_in c' q' s ∧ (∀ i, i < c' → i < c ∨ q' i = s) ∧ ∀ post : SX → Prop, post (fu, ll, dl, nc, ss, hk, hv, ca, pk, st, ev, cu, ec, va, vc, dp, rc', nk, nl, n2, k1, k2, k3, nf, sk, en, fk, fn, fl, fm, iu', sl, sw, sm, rs') → wpX_reach post (fu, ll, dl, nc, ss, hk, hv, ca, pk, st, ev, cu, ec, va, vc, dp, rc, nk, nl, n2, k1, k2, k3, nf, sk, en, fk, fn, fl, fm, iu, sl, sw, sm, rs) (nI s) := by
  rcases H.2.2.2 s hs with ⟨a, b⟩ | ⟨a, b⟩
  · refine ⟨iu, rs, rc, c, q, H, sc_ex_r, b, fun i hi => Or.inl hi, fun post h => ?_⟩
    exact ⟨vp_in_nI hs (by omega), br_f (by rw [nI_clamp (by omega), a]; decide) h⟩
  · have H' := sc_XS_p H hs b
    have hc := sc_XS_b H'
    refine ⟨_, _, _, _, _, H', sc_ex_p, ⟨c, by omega, if_pos rfl⟩, fun i hi => ?_, fun post h => ?_⟩
    · by_cases e : i = c
      · exact Or.inr (if_pos e)
      · exact Or.inl (by omega)
    · obtain ⟨hr, _⟩ := H
      refine ⟨vp_in_nI hs (by omega), br_t (by rw [nI_clamp (by omega)]; exact a) ⟨vp_in_nI hs (by omega), nm_r (e' := upd iu s 1) (by rw [nI_clamp (by omega), sc_nb1]) ⟨pk_in c 34 (by omega) hr, ?_⟩⟩⟩
      exact nm_r (e' := upd rs c (nI s)) (by rw [hr, nI_clamp (by omega)]) (nm_r (e' := nI (c + 1)) (by rw [hr, nI_1]) h)
theorem xw_rrF {c b : Nat} {q : Nat → Nat} {m : Int32} (H : sc_XS iu rs rc c q) (hb : b + 8 ≤ 256) (hr : ∀ y, y < 8 → bt m y = true → ∃ s, s < 34 ∧ fl (b + y) = nI s) : ∃ iu' rs' rc' c' q', sc_XS iu' rs' rc' c' q' ∧ sc_ex c q c' q' ∧ (∀ y, y < 8 → bt m y = true → ∃ s, s < 34 ∧ fl (b + y) = nI s ∧ sc_in c' q' s) ∧ (∀ i, i < c' → i < c ∨ ∃ y, y < 8 ∧ bt m y = true ∧ fl (b + y) = nI (q' i)) ∧ ∀ post : SX → Prop, post (fu, ll, dl, nc, ss, hk, hv, ca, pk, st, ev, cu, ec, va, vc, dp, rc', nk, nl, n2, k1, k2, k3, nf, sk, en, fk, fn, fl, fm, iu', sl, sw, sm, rs') → wpX_reachRow__frameValues post (fu, ll, dl, nc, ss, hk, hv, ca, pk, st, ev, cu, ec, va, vc, dp, rc, nk, nl, n2, k1, k2, k3, nf, sk, en, fk, fn, fl, fm, iu, sl, sw, sm, rs) (nI b) m := by
  have L := sc_loop (P := SX → Prop) (S := (Nat → Int32) × (Nat → Int32) × Int32) (fun p n i s => wX_reachRow__frameValues_3 p (nI b) m n (nI i) fu ll dl nc ss hk hv ca pk st ev cu ec va vc dp s.2.2 nk nl n2 k1 k2 k3 nf sk en fk fn fl fm s.1 sl sw sm s.2.1) (fun p s => p (fu, ll, dl, nc, ss, hk, hv, ca, pk, st, ev, cu, ec, va, vc, dp, s.2.2, nk, nl, n2, k1, k2, k3, nf, sk, en, fk, fn, fl, fm, s.1, sl, sw, sm, s.2.1)) (fun j s => ∃ c' q', sc_XS s.1 s.2.1 s.2.2 c' q' ∧ sc_ex c q c' q' ∧ (∀ y, y < j → bt m y = true → ∃ t, t < 34 ∧ fl (b + y) = nI t ∧ sc_in c' q' t) ∧ (∀ i, i < c' → i < c ∨ ∃ y, y < 8 ∧ bt m y = true ∧ fl (b + y) = nI (q' i))) 8 ?_ ?_ 8 0 (iu, rs, rc) rfl ⟨c, q, H, sc_ex_r, fun y hy => absurd hy (Nat.not_lt_zero y), fun i hi => Or.inl hi⟩
  · obtain ⟨s', ⟨c', q', a1, a2, a3, a4⟩, K⟩ := L
    exact ⟨_, _, _, c', q', a1, a2, a3, a4, fun post h => ⟨9, K post 9 (by omega) h⟩⟩
  · intro p n s _ hp
    exact br_t (nI_le (a := 8) (b := 8) (by omega) (by omega)) hp
  · intro i s hi hI
    obtain ⟨c', q', a1, a2, a3, a4⟩ := hI
    cases hm : bt m i with
    | false =>
      refine ⟨s, ⟨c', q', a1, a2, ?_, a4⟩, fun p n h => br_f (nI_ge (a := i) (b := 8) (by omega) (by omega)) (br_t ((sc_bit m (by omega)).mpr hm) (nm_r (nI_1 i) h))⟩
      intro y hy hb'
      by_cases e : y = i
      · rw [e, hm] at hb'; cases hb'
      · exact a3 y (by omega) hb'
    | true =>
      obtain ⟨t, ht, et⟩ := hr i hi hm
      obtain ⟨iu', rs', rc', c2, q2, b1, b2, b3, b4, K⟩ := xw_reach (fu := fu) (ll := ll) (dl := dl) (nc := nc) (ss := ss) (hk := hk) (hv := hv) (ca := ca) (pk := pk) (st := st) (ev := ev) (cu := cu) (ec := ec) (va := va) (vc := vc) (dp := dp) (nk := nk) (nl := nl) (n2 := n2) (k1 := k1) (k2 := k2) (k3 := k3) (nf := nf) (sk := sk) (en := en) (fk := fk) (fn := fn) (fl := fl) (fm := fm) (sl := sl) (sw := sw) (sm := sm) a1 ht
      refine ⟨(iu', rs', rc'), ⟨c2, q2, b1, sc_ex_t a2 b2, ?_, ?_⟩, fun p n h => br_f (nI_ge (a := i) (b := 8) (by omega) (by omega)) (br_f (fun z => by rw [(sc_bit m (by omega)).mp z] at hm; cases hm) ⟨pk_in (b + i) 256 (by omega) (nI_add b i), ?_⟩)⟩
      · intro y hy hb'
        by_cases e : y = i
        · subst e
          exact ⟨t, ht, et, b3⟩
        · obtain ⟨t', h1, h2, h3⟩ := a3 y (by omega) hb'
          exact ⟨t', h1, h2, sc_ex_in b2 h3⟩
      · intro j hj
        rcases b4 j hj with h1 | h1
        · rw [b2.2 j h1]
          exact a4 j h1
        · exact Or.inr ⟨i, hi, hm, by rw [h1]; exact et⟩
      · rw [show fl (nI b + nI i).toNatClampNeg = nI t from by rw [sc_ad (by omega)]; exact et]
        exact K _ (nm_r (nI_1 i) h)
theorem xw_rrS {c b : Nat} {q : Nat → Nat} {m : Int32} (H : sc_XS iu rs rc c q) (hb : b + 8 ≤ 272) (hr : ∀ y, y < 8 → bt m y = true → ∃ s, s < 34 ∧ sw (b + y) = nI s) : ∃ iu' rs' rc' c' q', sc_XS iu' rs' rc' c' q' ∧ sc_ex c q c' q' ∧ (∀ y, y < 8 → bt m y = true → ∃ s, s < 34 ∧ sw (b + y) = nI s ∧ sc_in c' q' s) ∧ (∀ i, i < c' → i < c ∨ ∃ y, y < 8 ∧ bt m y = true ∧ sw (b + y) = nI (q' i)) ∧ ∀ post : SX → Prop, post (fu, ll, dl, nc, ss, hk, hv, ca, pk, st, ev, cu, ec, va, vc, dp, rc', nk, nl, n2, k1, k2, k3, nf, sk, en, fk, fn, fl, fm, iu', sl, sw, sm, rs') → wpX_reachRow__slotValues post (fu, ll, dl, nc, ss, hk, hv, ca, pk, st, ev, cu, ec, va, vc, dp, rc, nk, nl, n2, k1, k2, k3, nf, sk, en, fk, fn, fl, fm, iu, sl, sw, sm, rs) (nI b) m := by
  have L := sc_loop (P := SX → Prop) (S := (Nat → Int32) × (Nat → Int32) × Int32) (fun p n i s => wX_reachRow__slotValues_3 p (nI b) m n (nI i) fu ll dl nc ss hk hv ca pk st ev cu ec va vc dp s.2.2 nk nl n2 k1 k2 k3 nf sk en fk fn fl fm s.1 sl sw sm s.2.1) (fun p s => p (fu, ll, dl, nc, ss, hk, hv, ca, pk, st, ev, cu, ec, va, vc, dp, s.2.2, nk, nl, n2, k1, k2, k3, nf, sk, en, fk, fn, fl, fm, s.1, sl, sw, sm, s.2.1)) (fun j s => ∃ c' q', sc_XS s.1 s.2.1 s.2.2 c' q' ∧ sc_ex c q c' q' ∧ (∀ y, y < j → bt m y = true → ∃ t, t < 34 ∧ sw (b + y) = nI t ∧ sc_in c' q' t) ∧ (∀ i, i < c' → i < c ∨ ∃ y, y < 8 ∧ bt m y = true ∧ sw (b + y) = nI (q' i))) 8 ?_ ?_ 8 0 (iu, rs, rc) rfl ⟨c, q, H, sc_ex_r, fun y hy => absurd hy (Nat.not_lt_zero y), fun i hi => Or.inl hi⟩
  · obtain ⟨s', ⟨c', q', a1, a2, a3, a4⟩, K⟩ := L
    exact ⟨_, _, _, c', q', a1, a2, a3, a4, fun post h => ⟨9, K post 9 (by omega) h⟩⟩
  · intro p n s _ hp
    exact br_t (nI_le (a := 8) (b := 8) (by omega) (by omega)) hp
  · intro i s hi hI
    obtain ⟨c', q', a1, a2, a3, a4⟩ := hI
    cases hm : bt m i with
    | false =>
      refine ⟨s, ⟨c', q', a1, a2, ?_, a4⟩, fun p n h => br_f (nI_ge (a := i) (b := 8) (by omega) (by omega)) (br_t ((sc_bit m (by omega)).mpr hm) (nm_r (nI_1 i) h))⟩
      intro y hy hb'
      by_cases e : y = i
      · rw [e, hm] at hb'; cases hb'
      · exact a3 y (by omega) hb'
    | true =>
      obtain ⟨t, ht, et⟩ := hr i hi hm
      obtain ⟨iu', rs', rc', c2, q2, b1, b2, b3, b4, K⟩ := xw_reach (fu := fu) (ll := ll) (dl := dl) (nc := nc) (ss := ss) (hk := hk) (hv := hv) (ca := ca) (pk := pk) (st := st) (ev := ev) (cu := cu) (ec := ec) (va := va) (vc := vc) (dp := dp) (nk := nk) (nl := nl) (n2 := n2) (k1 := k1) (k2 := k2) (k3 := k3) (nf := nf) (sk := sk) (en := en) (fk := fk) (fn := fn) (fl := fl) (fm := fm) (sl := sl) (sw := sw) (sm := sm) a1 ht
      refine ⟨(iu', rs', rc'), ⟨c2, q2, b1, sc_ex_t a2 b2, ?_, ?_⟩, fun p n h => br_f (nI_ge (a := i) (b := 8) (by omega) (by omega)) (br_f (fun z => by rw [(sc_bit m (by omega)).mp z] at hm; cases hm) ⟨pk_in (b + i) 272 (by omega) (nI_add b i), ?_⟩)⟩
      · intro y hy hb'
        by_cases e : y = i
        · subst e
          exact ⟨t, ht, et, b3⟩
        · obtain ⟨t', h1, h2, h3⟩ := a3 y (by omega) hb'
          exact ⟨t', h1, h2, sc_ex_in b2 h3⟩
      · intro j hj
        rcases b4 j hj with h1 | h1
        · rw [b2.2 j h1]
          exact a4 j h1
        · exact Or.inr ⟨i, hi, hm, by rw [h1]; exact et⟩
      · rw [show sw (nI b + nI i).toNatClampNeg = nI t from by rw [sc_ad (by omega)]; exact et]
        exact K _ (nm_r (nI_1 i) h)
theorem xw_rrE {c b : Nat} {q : Nat → Nat} {m : Int32} (H : sc_XS iu rs rc c q) (hb : b + 8 ≤ 8) (hr : ∀ y, y < 8 → bt m y = true → ∃ s, s < 34 ∧ en (b + y) = nI s) : ∃ iu' rs' rc' c' q', sc_XS iu' rs' rc' c' q' ∧ sc_ex c q c' q' ∧ (∀ y, y < 8 → bt m y = true → ∃ s, s < 34 ∧ en (b + y) = nI s ∧ sc_in c' q' s) ∧ (∀ i, i < c' → i < c ∨ ∃ y, y < 8 ∧ bt m y = true ∧ en (b + y) = nI (q' i)) ∧ ∀ post : SX → Prop, post (fu, ll, dl, nc, ss, hk, hv, ca, pk, st, ev, cu, ec, va, vc, dp, rc', nk, nl, n2, k1, k2, k3, nf, sk, en, fk, fn, fl, fm, iu', sl, sw, sm, rs') → wpX_reachRow__env post (fu, ll, dl, nc, ss, hk, hv, ca, pk, st, ev, cu, ec, va, vc, dp, rc, nk, nl, n2, k1, k2, k3, nf, sk, en, fk, fn, fl, fm, iu, sl, sw, sm, rs) (nI b) m := by
  have L := sc_loop (P := SX → Prop) (S := (Nat → Int32) × (Nat → Int32) × Int32) (fun p n i s => wX_reachRow__env_3 p (nI b) m n (nI i) fu ll dl nc ss hk hv ca pk st ev cu ec va vc dp s.2.2 nk nl n2 k1 k2 k3 nf sk en fk fn fl fm s.1 sl sw sm s.2.1) (fun p s => p (fu, ll, dl, nc, ss, hk, hv, ca, pk, st, ev, cu, ec, va, vc, dp, s.2.2, nk, nl, n2, k1, k2, k3, nf, sk, en, fk, fn, fl, fm, s.1, sl, sw, sm, s.2.1)) (fun j s => ∃ c' q', sc_XS s.1 s.2.1 s.2.2 c' q' ∧ sc_ex c q c' q' ∧ (∀ y, y < j → bt m y = true → ∃ t, t < 34 ∧ en (b + y) = nI t ∧ sc_in c' q' t) ∧ (∀ i, i < c' → i < c ∨ ∃ y, y < 8 ∧ bt m y = true ∧ en (b + y) = nI (q' i))) 8 ?_ ?_ 8 0 (iu, rs, rc) rfl ⟨c, q, H, sc_ex_r, fun y hy => absurd hy (Nat.not_lt_zero y), fun i hi => Or.inl hi⟩
  · obtain ⟨s', ⟨c', q', a1, a2, a3, a4⟩, K⟩ := L
    exact ⟨_, _, _, c', q', a1, a2, a3, a4, fun post h => ⟨9, K post 9 (by omega) h⟩⟩
  · intro p n s _ hp
    exact br_t (nI_le (a := 8) (b := 8) (by omega) (by omega)) hp
  · intro i s hi hI
    obtain ⟨c', q', a1, a2, a3, a4⟩ := hI
    cases hm : bt m i with
    | false =>
      refine ⟨s, ⟨c', q', a1, a2, ?_, a4⟩, fun p n h => br_f (nI_ge (a := i) (b := 8) (by omega) (by omega)) (br_t ((sc_bit m (by omega)).mpr hm) (nm_r (nI_1 i) h))⟩
      intro y hy hb'
      by_cases e : y = i
      · rw [e, hm] at hb'; cases hb'
      · exact a3 y (by omega) hb'
    | true =>
      obtain ⟨t, ht, et⟩ := hr i hi hm
      obtain ⟨iu', rs', rc', c2, q2, b1, b2, b3, b4, K⟩ := xw_reach (fu := fu) (ll := ll) (dl := dl) (nc := nc) (ss := ss) (hk := hk) (hv := hv) (ca := ca) (pk := pk) (st := st) (ev := ev) (cu := cu) (ec := ec) (va := va) (vc := vc) (dp := dp) (nk := nk) (nl := nl) (n2 := n2) (k1 := k1) (k2 := k2) (k3 := k3) (nf := nf) (sk := sk) (en := en) (fk := fk) (fn := fn) (fl := fl) (fm := fm) (sl := sl) (sw := sw) (sm := sm) a1 ht
      refine ⟨(iu', rs', rc'), ⟨c2, q2, b1, sc_ex_t a2 b2, ?_, ?_⟩, fun p n h => br_f (nI_ge (a := i) (b := 8) (by omega) (by omega)) (br_f (fun z => by rw [(sc_bit m (by omega)).mp z] at hm; cases hm) ⟨pk_in (b + i) 8 (by omega) (nI_add b i), ?_⟩)⟩
      · intro y hy hb'
        by_cases e : y = i
        · subst e
          exact ⟨t, ht, et, b3⟩
        · obtain ⟨t', h1, h2, h3⟩ := a3 y (by omega) hb'
          exact ⟨t', h1, h2, sc_ex_in b2 h3⟩
      · intro j hj
        rcases b4 j hj with h1 | h1
        · rw [b2.2 j h1]
          exact a4 j h1
        · exact Or.inr ⟨i, hi, hm, by rw [h1]; exact et⟩
      · rw [show en (nI b + nI i).toNatClampNeg = nI t from by rw [sc_ad (by omega)]; exact et]
        exact K _ (nm_r (nI_1 i) h)
theorem xw_ckF {c d : Nat} {q : Nat → Nat} {P : Nat → Prop} (H : sc_XS iu rs rc c q) (hd : d ≤ 32) (hr : ∀ i, i < d → ∀ y, y < 8 → bt (fm i) y = true → ∃ s, s < 34 ∧ fl (i * 8 + y) = nI s) (hP : ∀ i, i < c → P (q i)) (hF : ∀ i s, i < d → sc_FR fl fm i s → P s) : ∃ iu' rs' rc' c' q', sc_XS iu' rs' rc' c' q' ∧ sc_ex c q c' q' ∧ (∀ i, i < c' → P (q' i)) ∧ (∀ i s, i < d → sc_FR fl fm i s → sc_in c' q' s) ∧ ∀ (post : SX → Prop) n, d < n → (∃ n86, wX_checkLive_86 post n86 0 fu ll dl nc ss hk hv ca pk st ev cu ec va vc (nI d) rc' nk nl n2 k1 k2 k3 nf sk en fk fn fl fm iu' sl sw sm rs') → wX_checkLive_52 post n 0 fu ll dl nc ss hk hv ca pk st ev cu ec va vc (nI d) rc nk nl n2 k1 k2 k3 nf sk en fk fn fl fm iu sl sw sm rs := by
  have L := sc_loop (P := SX → Prop) (S := (Nat → Int32) × (Nat → Int32) × Int32) (fun p n i s => wX_checkLive_52 p n (nI i) fu ll dl nc ss hk hv ca pk st ev cu ec va vc (nI d) s.2.2 nk nl n2 k1 k2 k3 nf sk en fk fn fl fm s.1 sl sw sm s.2.1) (fun p s => ∃ n86, wX_checkLive_86 p n86 0 fu ll dl nc ss hk hv ca pk st ev cu ec va vc (nI d) s.2.2 nk nl n2 k1 k2 k3 nf sk en fk fn fl fm s.1 sl sw sm s.2.1) (fun j s => ∃ c' q', sc_XS s.1 s.2.1 s.2.2 c' q' ∧ sc_ex c q c' q' ∧ (∀ i, i < c' → P (q' i)) ∧ (∀ i t, i < j → sc_FR fl fm i t → sc_in c' q' t)) d ?_ ?_ d 0 (iu, rs, rc) (Nat.zero_add d) ⟨c, q, H, sc_ex_r, hP, fun i t hi => absurd hi (Nat.not_lt_zero i)⟩
  · obtain ⟨s', ⟨c', q', a1, a2, a3, a4⟩, K⟩ := L
    exact ⟨_, _, _, c', q', a1, a2, a3, a4, fun post n hn h => K post n hn h⟩
  · intro p n s _ hp
    exact br_t (nI_le (a := d) (b := d) (by omega) (by omega)) hp
  · intro i s hi hI
    obtain ⟨c', q', a1, a2, a3, a4⟩ := hI
    obtain ⟨iu', rs', rc', c2, q2, b1, b2, b3, b4, K⟩ := xw_rrF (fu := fu) (ll := ll) (dl := dl) (nc := nc) (ss := ss) (hk := hk) (hv := hv) (ca := ca) (pk := pk) (st := st) (ev := ev) (cu := cu) (ec := ec) (va := va) (vc := vc) (dp := nI d) (nk := nk) (nl := nl) (n2 := n2) (k1 := k1) (k2 := k2) (k3 := k3) (nf := nf) (sk := sk) (en := en) (fk := fk) (fn := fn) (fl := fl) (fm := fm) (sl := sl) (sw := sw) (sm := sm) (b := i * 8) (m := fm i) a1 (by omega) (hr i hi)
    refine ⟨(iu', rs', rc'), ⟨c2, q2, b1, sc_ex_t a2 b2, ?_, ?_⟩, fun p n h => br_f (nI_ge (a := i) (b := d) (by omega) (by omega)) ⟨vp_in_nI (by omega) (by omega), ?_⟩⟩
    · intro j hj
      rcases b4 j hj with h1 | ⟨y, hy, hb, e⟩
      · rw [b2.2 j h1]
        exact a3 j h1
      · exact hF i _ hi ⟨(b1.2.1 j hj).1, y, hy, hb, e⟩
    · intro j t hj ht
      by_cases e : j = i
      · subst e
        obtain ⟨h34, y, hy, hb, ev⟩ := ht
        obtain ⟨t', h1, h2, h3⟩ := b3 y hy hb
        have : t = t' := sc_nIi (ev.symm.trans h2) (by omega) (by omega)
        exact this ▸ h3
      · exact sc_ex_in b2 (a4 j t (by omega) ht)
    · rw [sc_m8, nI_clamp (n := i) (by omega)]
      exact K _ (nm_r (nI_1 i) h)
theorem xw_ckB {V : Nat → Prop} (hV : ∀ s t, V s → sc_EX sw sm s t → V t) (hE : ∀ s, V s → ∀ y, y < 8 → bt (sm s) y = true → ∃ t, t < 34 ∧ sw (s * 8 + y) = nI t) : ∀ (d k : Nat) (iu rs : Nat → Int32) (rc : Int32) (c : Nat) (q : Nat → Nat), k + d = 34 → k ≤ c → sc_XS iu rs rc c q → (∀ i, i < c → V (q i)) → (∀ i t, i < k → sc_EX sw sm (q i) t → sc_in c q t) → ∃ iu' rs' rc' c' q', sc_XS iu' rs' rc' c' q' ∧ sc_ex c q c' q' ∧ (∀ i, i < c' → V (q' i)) ∧ (∀ i t, i < c' → sc_EX sw sm (q' i) t → sc_in c' q' t) ∧ ∀ (post : SX → Prop) n, d < n → wX_checkLive_131 post fu ll dl nc ss hk hv ca pk st ev cu ec va vc dp rc' nk nl n2 k1 k2 k3 nf sk en fk fn fl fm iu' sl sw sm rs' → wX_checkLive_86 post n (nI k) fu ll dl nc ss hk hv ca pk st ev cu ec va vc dp rc nk nl n2 k1 k2 k3 nf sk en fk fn fl fm iu sl sw sm rs := by
  intro d
  induction d with
  | zero =>
    intro k iu rs rc c q hkd hkc H hq hcl
    have hc := sc_XS_b H
    refine ⟨iu, rs, rc, c, q, H, sc_ex_r, hq, fun i t hi => hcl i t (by omega), fun post n hn h => ?_⟩
    obtain ⟨m, rfl⟩ : ∃ m, n = m + 1 := ⟨n - 1, by omega⟩
    have : k = 34 := by omega
    subst this
    exact br_t (nI_le (a := 34) (b := 34) (by omega) (by omega)) h
  | succ d ih =>
    intro k iu rs rc c q hkd hkc H hq hcl
    have hc := sc_XS_b H
    have hrc := H.1
    by_cases hck : c ≤ k
    · refine ⟨iu, rs, rc, c, q, H, sc_ex_r, hq, fun i t hi => hcl i t (by omega), fun post n hn h => ?_⟩
      obtain ⟨m, rfl⟩ : ∃ m, n = m + 1 := ⟨n - 1, by omega⟩
      exact br_f (nI_ge (a := k) (b := 34) (by omega) (by omega)) (br_t (by rw [hrc]; exact nI_le hck (by omega)) h)
    · have hkq := H.2.1 k (by omega)
      obtain ⟨iu', rs', rc', c2, q2, b1, b2, b3, b4, K⟩ := xw_rrS (fu := fu) (ll := ll) (dl := dl) (nc := nc) (ss := ss) (hk := hk) (hv := hv) (ca := ca) (pk := pk) (st := st) (ev := ev) (cu := cu) (ec := ec) (va := va) (vc := vc) (dp := dp) (nk := nk) (nl := nl) (n2 := n2) (k1 := k1) (k2 := k2) (k3 := k3) (nf := nf) (sk := sk) (en := en) (fk := fk) (fn := fn) (fl := fl) (fm := fm) (sl := sl) (sw := sw) (sm := sm) (b := q k * 8) (m := sm (q k)) H (by omega) (hE (q k) (hq k (by omega)))
      obtain ⟨iu3, rs3, rc3, c3, q3, d1, d2, d3, d4, K3⟩ := ih (k + 1) iu' rs' rc' c2 q2 (by omega) (by have := b2.1; omega) b1 (by
        intro i hi
        rcases b4 i hi with h1 | ⟨y, hy, hb, e⟩
        · rw [b2.2 i h1]
          exact hq i h1
        · exact hV (q k) _ (hq k (by omega)) ⟨(b1.2.1 i hi).1, y, hy, hb, e⟩) (by
        intro i t hi ht
        by_cases e : i = k
        · subst e
          rw [b2.2 i (by omega)] at ht
          obtain ⟨h34, y, hy, hb, ev⟩ := ht
          obtain ⟨t', h1, h2, h3⟩ := b3 y hy hb
          have : t = t' := sc_nIi (ev.symm.trans h2) (by omega) (by omega)
          exact this ▸ h3
        · rw [b2.2 i (by omega)] at ht
          exact sc_ex_in b2 (hcl i t (by omega) ht))
      refine ⟨iu3, rs3, rc3, c3, q3, d1, sc_ex_t b2 d2, d3, d4, fun post n hn h => ?_⟩
      obtain ⟨m, rfl⟩ : ∃ m, n = m + 1 := ⟨n - 1, by omega⟩
      refine br_f (nI_ge (a := k) (b := 34) (by omega) (by omega)) (br_f (by rw [hrc]; exact nI_ge (by omega) (by omega)) ⟨vp_in_nI (by omega) (by omega), nm_r (e' := nI (q k)) (by rw [nI_clamp (by omega)]; exact hkq.2) ⟨vp_in_nI hkq.1 (by omega), ?_⟩⟩)
      rw [sc_m8, nI_clamp (n := q k) (by omega)]
      exact K _ (nm_r (nI_1 k) (K3 post m (by omega) h))
/-- from the roots of the state to the end of the check -/
theorem xw_ckT {c d L P : Nat} {q : Nat → Nat} {V : Nat → Prop} (H : sc_XS iu rs rc c q) (hd : d ≤ 32) (hL : L < 2 ^ 31) (hp : P < 2 ^ 31) (hr : ∀ i, i < d → ∀ y, y < 8 → bt (fm i) y = true → ∃ s, s < 34 ∧ fl (i * 8 + y) = nI s) (hq : ∀ i, i < c → V (q i)) (hF : ∀ i s, i < d → sc_FR fl fm i s → V s) (hV : ∀ s t, V s → sc_EX sw sm s t → V t) (hE : ∀ s, V s → ∀ y, y < 8 → bt (sm s) y = true → ∃ t, t < 34 ∧ sw (s * 8 + y) = nI t) : ∃ iu' rs' rc' c' q', sc_XS iu' rs' rc' c' q' ∧ sc_ex c q c' q' ∧ (∀ i, i < c' → V (q' i)) ∧ (∀ i s, i < d → sc_FR fl fm i s → sc_in c' q' s) ∧ (∀ i t, i < c' → sc_EX sw sm (q' i) t → sc_in c' q' t) ∧ ∀ (post : SX → Prop), post (fu, nI L, dl, nc, ss, hk, hv, ca, nI (if c' ≤ P then P else c'), if c' ≤ L then st else 6, ev, cu, ec, va, vc, nI d, rc', nk, nl, n2, k1, k2, k3, nf, sk, en, fk, fn, fl, fm, iu', sl, sw, sm, rs') → ∃ n52, wX_checkLive_52 post n52 0 fu (nI L) dl nc ss hk hv ca (nI P) st ev cu ec va vc (nI d) rc nk nl n2 k1 k2 k3 nf sk en fk fn fl fm iu sl sw sm rs := by
  obtain ⟨iu1, rs1, rc1, c1, q1, a1, a2, a3, a4, K1⟩ := xw_ckF (fu := fu) (ll := nI L) (dl := dl) (nc := nc) (ss := ss) (hk := hk) (hv := hv) (ca := ca) (pk := nI P) (st := st) (ev := ev) (cu := cu) (ec := ec) (va := va) (vc := vc) (nk := nk) (nl := nl) (n2 := n2) (k1 := k1) (k2 := k2) (k3 := k3) (nf := nf) (sk := sk) (en := en) (fk := fk) (fn := fn) (fl := fl) (fm := fm) (sl := sl) (sw := sw) (sm := sm) H hd hr hq hF
  obtain ⟨iu2, rs2, rc2, c2, q2, b1, b2, b3, b4, K2⟩ := xw_ckB (fu := fu) (ll := nI L) (dl := dl) (nc := nc) (ss := ss) (hk := hk) (hv := hv) (ca := ca) (pk := nI P) (st := st) (ev := ev) (cu := cu) (ec := ec) (va := va) (vc := vc) (dp := nI d) (nk := nk) (nl := nl) (n2 := n2) (k1 := k1) (k2 := k2) (k3 := k3) (nf := nf) (sk := sk) (en := en) (fk := fk) (fn := fn) (fl := fl) (fm := fm) (sl := sl) (sw := sw) (sm := sm) hV hE 34 0 iu1 rs1 rc1 c1 q1 rfl (Nat.zero_le _) a1 a3 (fun i t hi => absurd hi (Nat.not_lt_zero i))
  have hc := sc_XS_b b1
  have hrc := b1.1
  refine ⟨iu2, rs2, rc2, c2, q2, b1, sc_ex_t a2 b2, b3, fun i s hi hs => sc_ex_in b2 (a4 i s hi hs), b4, fun post h => ⟨d + 1, K1 post (d + 1) (by omega) ⟨35, K2 post 35 (by omega) ?_⟩⟩⟩
  refine pk_le c2 P (fun h1 => pk_le c2 L (fun h2 => ?_) (fun h2 => ?_) hrc) (fun h1 => pk_le c2 L (fun h2 => ?_) (fun h2 => ?_) hrc) hrc
  · rw [if_pos h1, if_pos h2] at h; exact h
  · rw [if_pos h1, if_neg (by omega)] at h; exact h
  · rw [if_neg (by omega), if_pos h2, ← hrc] at h; exact h
  · rw [if_neg (by omega), if_neg (by omega), ← hrc] at h; exact h
/-- the whole check: what is in use behind it is what is reached -/
def sc_RX (SR : Nat → Prop) (fl fm : Nat → Int32) (d s : Nat) : Prop := SR s ∨ ∃ i, i < d ∧ sc_FR fl fm i s
theorem sc_XS0 {q : Nat → Nat} : sc_XS (sc_wr iu 0 (fun _ => 0) 34) rs 0 0 q := by
  refine ⟨rfl, fun i hi => absurd hi (Nat.not_lt_zero i), fun i j hi => absurd hi (Nat.not_lt_zero i), fun s hs => Or.inr ⟨sc_wr_z hs, ?_⟩⟩
  intro h
  obtain ⟨i, hi, _⟩ := h
  exact absurd hi (Nat.not_lt_zero i)
theorem xw_all {c d : Nat} {q : Nat → Nat} {SR : Nat → Prop} (a1 : ∀ i, i < c → sc_rc (sc_RX SR fl fm d) (sc_EX sw sm) (q i)) (a2 : ∀ s, SR s → sc_in c q s) (a3 : ∀ i s, i < d → sc_FR fl fm i s → sc_in c q s) (a4 : ∀ i t, i < c → sc_EX sw sm (q i) t → sc_in c q t) : ∀ s, sc_in c q s ↔ sc_rc (sc_RX SR fl fm d) (sc_EX sw sm) s := by
  intro s
  constructor
  · intro h
    obtain ⟨i, hi, rfl⟩ := h
    exact a1 i hi
  · intro h
    refine h (sc_in c q) ?_ ?_
    · intro a ha
      rcases ha with ha | ⟨i, hi, ha⟩
      · exact a2 a ha
      · exact a3 i a hi ha
    · intro a b ha e
      obtain ⟨i, hi, rfl⟩ := ha
      exact a4 i b hi e
theorem xw_checkR {d L P s0 : Nat} (hd : d ≤ 32) (hL : L < 2 ^ 31) (hp : P < 2 ^ 31) (h0 : s0 < 34) (hr : ∀ i, i < d → ∀ y, y < 8 → bt (fm i) y = true → ∃ s, s < 34 ∧ fl (i * 8 + y) = nI s) (hE : ∀ s, sc_rc (sc_RX (fun s => s = s0) fl fm d) (sc_EX sw sm) s → ∀ y, y < 8 → bt (sm s) y = true → ∃ t, t < 34 ∧ sw (s * 8 + y) = nI t) : ∃ iu' rs' rc' c' q', sc_XS iu' rs' rc' c' q' ∧ (∀ s, sc_in c' q' s ↔ sc_rc (sc_RX (fun s => s = s0) fl fm d) (sc_EX sw sm) s) ∧ ∀ (post : SX → Prop), post (fu, nI L, dl, nc, ss, hk, hv, ca, nI (if c' ≤ P then P else c'), if c' ≤ L then st else 6, 0, cu, ec, nI s0, vc, nI d, rc', nk, nl, n2, k1, k2, k3, nf, sk, en, fk, fn, fl, fm, iu', sl, sw, sm, rs') → wpX_checkLive post (fu, nI L, dl, nc, ss, hk, hv, ca, nI P, st, 0, cu, ec, nI s0, vc, nI d, rc, nk, nl, n2, k1, k2, k3, nf, sk, en, fk, fn, fl, fm, iu, sl, sw, sm, rs) := by
  obtain ⟨iu1, rs1, rc1, c1, q1, a1, a2, a3, a4, K1⟩ := xw_reach (fu := fu) (ll := nI L) (dl := dl) (nc := nc) (ss := ss) (hk := hk) (hv := hv) (ca := ca) (pk := nI P) (st := st) (ev := 0) (cu := cu) (ec := ec) (va := nI s0) (vc := vc) (dp := nI d) (nk := nk) (nl := nl) (n2 := n2) (k1 := k1) (k2 := k2) (k3 := k3) (nf := nf) (sk := sk) (en := en) (fk := fk) (fn := fn) (fl := fl) (fm := fm) (sl := sl) (sw := sw) (sm := sm) (sc_XS0 (iu := iu) (rs := rs) (q := fun i => i)) h0
  obtain ⟨iu2, rs2, rc2, c2, q2, b1, b2, b3, b4, b5, K2⟩ := xw_ckT (V := sc_rc (sc_RX (fun s => s = s0) fl fm d) (sc_EX sw sm)) (fu := fu) (dl := dl) (nc := nc) (ss := ss) (hk := hk) (hv := hv) (ca := ca) (st := st) (ev := 0) (cu := cu) (ec := ec) (va := nI s0) (vc := vc) (nk := nk) (nl := nl) (n2 := n2) (k1 := k1) (k2 := k2) (k3 := k3) (nf := nf) (sk := sk) (en := en) (fk := fk) (fn := fn) (fl := fl) (fm := fm) (sl := sl) (sw := sw) (sm := sm) (L := L) (P := P) a1 hd hL hp hr (by
    intro i hi
    rcases a4 i hi with h | h
    · exact absurd h (Nat.not_lt_zero i)
    · exact sc_rc_r (Or.inl h)) (fun i s hi hs => sc_rc_r (Or.inr ⟨i, hi, hs⟩)) (fun s t hs e => sc_rc_e hs e) hE
  refine ⟨iu2, rs2, rc2, c2, q2, b1, xw_all b3 (fun s hs => sc_ex_in b2 (hs ▸ a3)) b4 b5, fun post h => ?_⟩
  unfold wpX_checkLive
  refine xw_free ?_
  exact br_t rfl (K1 _ (K2 post h))
theorem xw_checkE {d L P n : Nat} (hd : d ≤ 32) (hL : L < 2 ^ 31) (hp : P < 2 ^ 31) (hn : n < 32) (hs : ∀ y, y < 8 → bt (ec &&& nf n) y = true → ∃ s, s < 34 ∧ en y = nI s) (hr : ∀ i, i < d → ∀ y, y < 8 → bt (fm i) y = true → ∃ s, s < 34 ∧ fl (i * 8 + y) = nI s) (hE : ∀ s, sc_rc (sc_RX (fun s => s < 34 ∧ ∃ y, y < 8 ∧ bt (ec &&& nf n) y = true ∧ en y = nI s) fl fm d) (sc_EX sw sm) s → ∀ y, y < 8 → bt (sm s) y = true → ∃ t, t < 34 ∧ sw (s * 8 + y) = nI t) : ∃ iu' rs' rc' c' q', sc_XS iu' rs' rc' c' q' ∧ (∀ s, sc_in c' q' s ↔ sc_rc (sc_RX (fun s => s < 34 ∧ ∃ y, y < 8 ∧ bt (ec &&& nf n) y = true ∧ en y = nI s) fl fm d) (sc_EX sw sm) s) ∧ ∀ (post : SX → Prop), post (fu, nI L, dl, nc, ss, hk, hv, ca, nI (if c' ≤ P then P else c'), if c' ≤ L then st else 6, 1, nI n, ec, va, vc, nI d, rc', nk, nl, n2, k1, k2, k3, nf, sk, en, fk, fn, fl, fm, iu', sl, sw, sm, rs') → wpX_checkLive post (fu, nI L, dl, nc, ss, hk, hv, ca, nI P, st, 1, nI n, ec, va, vc, nI d, rc, nk, nl, n2, k1, k2, k3, nf, sk, en, fk, fn, fl, fm, iu, sl, sw, sm, rs) := by
  obtain ⟨iu1, rs1, rc1, c1, q1, a1, a2, a3, a4, K1⟩ := xw_rrE (fu := fu) (ll := nI L) (dl := dl) (nc := nc) (ss := ss) (hk := hk) (hv := hv) (ca := ca) (pk := nI P) (st := st) (ev := 1) (cu := nI n) (ec := ec) (va := va) (vc := vc) (dp := nI d) (nk := nk) (nl := nl) (n2 := n2) (k1 := k1) (k2 := k2) (k3 := k3) (nf := nf) (sk := sk) (en := en) (fk := fk) (fn := fn) (fl := fl) (fm := fm) (sl := sl) (sw := sw) (sm := sm) (b := 0) (m := ec &&& nf n) (sc_XS0 (iu := iu) (rs := rs) (q := fun i => i)) (by omega) (by intro y hy hb; rw [Nat.zero_add]; exact hs y hy hb)
  obtain ⟨iu2, rs2, rc2, c2, q2, b1, b2, b3, b4, b5, K2⟩ := xw_ckT (V := sc_rc (sc_RX (fun s => s < 34 ∧ ∃ y, y < 8 ∧ bt (ec &&& nf n) y = true ∧ en y = nI s) fl fm d) (sc_EX sw sm)) (fu := fu) (dl := dl) (nc := nc) (ss := ss) (hk := hk) (hv := hv) (ca := ca) (st := st) (ev := 1) (cu := nI n) (ec := ec) (va := va) (vc := vc) (nk := nk) (nl := nl) (n2 := n2) (k1 := k1) (k2 := k2) (k3 := k3) (nf := nf) (sk := sk) (en := en) (fk := fk) (fn := fn) (fl := fl) (fm := fm) (sl := sl) (sw := sw) (sm := sm) (L := L) (P := P) a1 hd hL hp hr (by
    intro i hi
    rcases a4 i hi with h | ⟨y, hy, hb, e⟩
    · exact absurd h (Nat.not_lt_zero i)
    · rw [Nat.zero_add] at e
      exact sc_rc_r (Or.inl ⟨(a1.2.1 i hi).1, y, hy, hb, e⟩)) (fun i s hi hs => sc_rc_r (Or.inr ⟨i, hi, hs⟩)) (fun s t hs e => sc_rc_e hs e) hE
  refine ⟨iu2, rs2, rc2, c2, q2, b1, xw_all b3 ?_ b4 b5, fun post h => ?_⟩
  · intro s hs'
    obtain ⟨h34, y, hy, hb, e⟩ := hs'
    obtain ⟨t, h1, h2, h3⟩ := a3 y hy hb
    rw [Nat.zero_add] at h2
    have : s = t := sc_nIi (e.symm.trans h2) (by omega) (by omega)
    exact sc_ex_in b2 (this ▸ h3)
  · unfold wpX_checkLive
    refine xw_free ?_
    refine br_f (by decide) ⟨vp_in_nI hn (by omega), ?_⟩
    rw [nI_clamp (n := n) (by omega)]
    exact K1 _ (K2 post h)
end
end
section
/-! ===== the reference's walks: rows ===== -/
theorem sc_a8 (i j : Nat) : nI i * 8 + nI j = nI (i * 8 + j) := by rw [sc_m8, nI_add]
theorem sc_c8 {i j : Nat} (h : i * 8 + j < 2 ^ 31) : (nI i * 8 + nI j).toNatClampNeg = i * 8 + j := by rw [sc_a8]; exact nI_clamp h
section
variable {fu ll dl nc bs hK hV ca pk ct wt lc sp ye yc rK rV : Int32} {Nk Na N2 C1 C2 C3 Nf bk cl ck cv mk wk rm gk gn ge gv gp gq yk yv : Nat → Int32}
theorem yw_load_l {post : SY → Prop} {b : Nat} (hb : b < 32) (h : post (fu, ll, dl, nc, bs, hK, hV, ca, pk, ct, wt, lc, sp, ye, yc, rK, rV, Nk, Na, N2, C1, C2, C3, Nf, bk, cl, ck, cv, mk, wk, rm, gk, gn, ge, gv, gp, gq, sc_wr yk 0 (fun y => ge (b * 8 + y)) 8, sc_wr yv 0 (fun y => gv (b * 8 + y)) 8, 32768, 32768)) : ∀ d i, i + d = 8 → wY_loadEnv_2 post (nI b) fu ll dl nc bs hK hV ca pk ct wt lc sp ye yc rK rV 32768 32768 (d + 1) (nI i) Nk Na N2 C1 C2 C3 Nf bk cl ck cv mk wk rm gk gn ge gv gp gq (sc_wr yk 0 (fun y => ge (b * 8 + y)) i) (sc_wr yv 0 (fun y => gv (b * 8 + y)) i) := by
  intro d
  induction d with
  | zero =>
    intro i hi
    have : i = 8 := by omega
    subst this
    exact br_t (nI_le (a := 8) (b := 8) (by omega) (by omega)) h
  | succ d ih =>
    intro i hi
    refine br_f (nI_ge (a := i) (b := 8) (by omega) (by omega)) ⟨pk_in (b * 8 + i) 256 (by omega) (sc_a8 b i), vp_in_nI (by omega) (by omega), ?_⟩
    refine nm_r (e' := sc_wr yk 0 (fun y => ge (b * 8 + y)) (i + 1)) (sc_wr_u (by rw [nI_clamp (by omega)]; omega) (congrArg ge (sc_c8 (by omega)))) ⟨pk_in (b * 8 + i) 256 (by omega) (sc_a8 b i), vp_in_nI (by omega) (by omega), ?_⟩
    refine nm_r (e' := sc_wr yv 0 (fun y => gv (b * 8 + y)) (i + 1)) (sc_wr_u (by rw [nI_clamp (by omega)]; omega) (congrArg gv (sc_c8 (by omega)))) ?_
    exact nm_r (nI_1 i) (ih (i + 1) (by omega))
theorem yw_load {post : SY → Prop} {b : Nat} (hb : b < 32) (h : post (fu, ll, dl, nc, bs, hK, hV, ca, pk, ct, wt, lc, sp, ye, yc, rK, rV, Nk, Na, N2, C1, C2, C3, Nf, bk, cl, ck, cv, mk, wk, rm, gk, gn, ge, gv, gp, gq, sc_wr yk 0 (fun y => ge (b * 8 + y)) 8, sc_wr yv 0 (fun y => gv (b * 8 + y)) 8, 32768, 32768)) : wpY_loadEnv post (fu, ll, dl, nc, bs, hK, hV, ca, pk, ct, wt, lc, sp, ye, yc, rK, rV, Nk, Na, N2, C1, C2, C3, Nf, bk, cl, ck, cv, mk, wk, rm, gk, gn, ge, gv, gp, gq, yk, yv, 32768, 32768) (nI b) := by
  have := yw_load_l hb h 8 0 (by omega)
  rw [sc_wr0, sc_wr0] at this
  exact ⟨9, this⟩
theorem yw_call_l {post : Int32 → SY → Prop} {b l x : Nat} {p v : Int32} (hb : b < 4096) (hl : l < 32) (hx : x < 8) (ex : Na l = nI x) (h : post (-2) (fu, ll, dl, nc, bs, hK, hV, ca, pk, ct, wt, lc, sp, 1, C1 l, rK, rV, Nk, Na, N2, C1, C2, C3, Nf, bk, cl, ck, cv, mk, wk, rm, gk, gn, ge, gv, gp, gq, upd (sc_wr yk 0 (fun y => ck (b * 8 + y)) 8) x p, upd (sc_wr yv 0 (fun y => cv (b * 8 + y)) 8) x v, 32768, 32768)) : ∀ d i, i + d = 8 → wY_callStep_47 post (nI b) p v (nI l) fu ll dl nc bs hK hV ca pk ct wt lc sp ye yc rK rV 32768 32768 (d + 1) (nI i) Nk Na N2 C1 C2 C3 Nf bk cl ck cv mk wk rm gk gn ge gv gp gq (sc_wr yk 0 (fun y => ck (b * 8 + y)) i) (sc_wr yv 0 (fun y => cv (b * 8 + y)) i) := by
  have el : (nI l).toNatClampNeg = l := nI_clamp (by omega)
  have ec : (Na l).toNatClampNeg = x := by rw [ex]; exact nI_clamp (by omega)
  have ei : vp_in (Na l) 8 := by rw [ex]; exact vp_in_nI hx (by omega)
  intro d
  induction d with
  | zero =>
    intro i hi
    have : i = 8 := by omega
    subst this
    refine br_t (nI_le (a := 8) (b := 8) (by omega) (by omega)) ⟨vp_in_nI hl (by omega), by rw [el]; exact ei, ?_⟩
    refine nm_r (e' := upd (sc_wr yk 0 (fun y => ck (b * 8 + y)) 8) x p) (by rw [el, ec]) ⟨vp_in_nI hl (by omega), by rw [el]; exact ei, ?_⟩
    refine nm_r (e' := upd (sc_wr yv 0 (fun y => cv (b * 8 + y)) 8) x v) (by rw [el, ec]) ⟨vp_in_nI hl (by omega), ?_⟩
    exact nm_r (e' := C1 l) (by rw [el]) h
  | succ d ih =>
    intro i hi
    refine br_f (nI_ge (a := i) (b := 8) (by omega) (by omega)) ⟨pk_in (b * 8 + i) 32768 (by omega) (sc_a8 b i), vp_in_nI (by omega) (by omega), ?_⟩
    refine nm_r (e' := sc_wr yk 0 (fun y => ck (b * 8 + y)) (i + 1)) (sc_wr_u (by rw [nI_clamp (by omega)]; omega) (congrArg ck (sc_c8 (by omega)))) ⟨pk_in (b * 8 + i) 32768 (by omega) (sc_a8 b i), vp_in_nI (by omega) (by omega), ?_⟩
    refine nm_r (e' := sc_wr yv 0 (fun y => cv (b * 8 + y)) (i + 1)) (sc_wr_u (by rw [nI_clamp (by omega)]; omega) (congrArg cv (sc_c8 (by omega)))) ?_
    exact nm_r (nI_1 i) (ih (i + 1) (by omega))
/-- the reference's call: with fuel left -/
theorem yw_call {post : Int32 → SY → Prop} {b l x A F : Nat} {p v : Int32} (hb : b < 4096) (hl : l < 32) (hx : x < 8) (el : cl b = nI l) (ex : Na l = nI x) (hA : A < F) (hF : F < 2 ^ 31) (h : post (-2) (nI F, ll, dl, nc, bs, hK, hV, nI (A + 1), pk, ct, wt, lc, sp, 1, C1 l, rK, rV, Nk, Na, N2, C1, C2, C3, Nf, bk, cl, ck, cv, mk, wk, rm, gk, gn, ge, gv, gp, gq, upd (sc_wr yk 0 (fun y => ck (b * 8 + y)) 8) x p, upd (sc_wr yv 0 (fun y => cv (b * 8 + y)) 8) x v, 32768, 32768)) : wpY_callStep post (nI F, ll, dl, nc, bs, hK, hV, nI A, pk, ct, wt, lc, sp, ye, yc, rK, rV, Nk, Na, N2, C1, C2, C3, Nf, bk, cl, ck, cv, mk, wk, rm, gk, gn, ge, gv, gp, gq, yk, yv, 32768, 32768) (nI b) p v := by
  have := yw_call_l (ye := ye) (yc := yc) hb hl hx ex h 8 0 (by omega)
  rw [sc_wr0, sc_wr0] at this
  unfold wpY_callStep
  refine br_f (fun z => absurd (sc_nIi z (by omega) hF) (by omega)) (br_f (nI_pos (by omega)) (br_t (nI_lt (a := b) (b := 4096) hb (by omega)) (nm_r (nI_1 A) ⟨vp_in_nI hb (by omega), nm_r (e' := nI l) (by rw [nI_clamp (by omega)]; exact el) ⟨9, this⟩⟩)))
theorem yw_push_l {post : Int32 → SY → Prop} {n d0 : Nat} (hn : n < 32) (hd : d0 < 32) (h : post (-2) (fu, ll, dl, nc, bs, hK, hV, ca, pk, ct, wt, lc, nI (d0 + 1), ye, C1 n, rK, rV, Nk, Na, N2, C1, C2, C3, Nf, bk, cl, ck, cv, mk, wk, rm, gk, gn, sc_wr ge (d0 * 8) yk 8, sc_wr gv (d0 * 8) yv 8, gp, gq, yk, yv, 32768, 32768)) : ∀ d i, i + d = 8 → wY_evalStep_369 post (nI n) fu ll dl nc bs hK hV ca pk ct wt lc (nI d0) ye yc rK rV 32768 32768 (d + 1) (nI i) Nk Na N2 C1 C2 C3 Nf bk cl ck cv mk wk rm gk gn (sc_wr ge (d0 * 8) yk i) (sc_wr gv (d0 * 8) yv i) gp gq yk yv := by
  intro d
  induction d with
  | zero =>
    intro i hi
    have : i = 8 := by omega
    subst this
    exact br_t (nI_le (a := 8) (b := 8) (by omega) (by omega)) (nm_r (nI_1 d0) ⟨vp_in_nI hn (by omega), nm_r (e' := C1 n) (by rw [nI_clamp (by omega)]) h⟩)
  | succ d ih =>
    intro i hi
    refine br_f (nI_ge (a := i) (b := 8) (by omega) (by omega)) ⟨vp_in_nI (by omega) (by omega), pk_in (d0 * 8 + i) 256 (by omega) (sc_a8 d0 i), ?_⟩
    refine nm_r (e' := sc_wr ge (d0 * 8) yk (i + 1)) (sc_wr_u (sc_c8 (by omega)) (congrArg yk (nI_clamp (by omega)))) ⟨vp_in_nI (by omega) (by omega), pk_in (d0 * 8 + i) 256 (by omega) (sc_a8 d0 i), ?_⟩
    refine nm_r (e' := sc_wr gv (d0 * 8) yv (i + 1)) (sc_wr_u (sc_c8 (by omega)) (congrArg yv (nI_clamp (by omega)))) ?_
    exact nm_r (nI_1 i) (ih (i + 1) (by omega))
/-- the reference's push of a frame -/
theorem yw_push {post : Int32 → SY → Prop} {n d0 D : Nat} {f : Int32} (hn : n < 32) (hd : d0 < D) (hD : D ≤ 32) (h : post (-2) (fu, ll, nI D, nc, bs, hK, hV, ca, pk, ct, wt, lc, nI (d0 + 1), ye, C1 n, rK, rV, Nk, Na, N2, C1, C2, C3, Nf, bk, cl, ck, cv, mk, wk, rm, upd gk d0 f, upd gn d0 (nI n), sc_wr ge (d0 * 8) yk 8, sc_wr gv (d0 * 8) yv 8, gp, gq, yk, yv, 32768, 32768)) : wY_evalStep_333 post (nI n) f fu ll (nI D) nc bs hK hV ca pk ct wt lc (nI d0) ye yc rK rV Nk Na N2 C1 C2 C3 Nf bk cl ck cv mk wk rm gk gn ge gv gp gq yk yv 32768 32768 := by
  have := yw_push_l (yc := yc) hn (by omega) h 8 0 (by omega)
  rw [sc_wr0, sc_wr0] at this
  unfold wY_evalStep_333
  exact br_t (nI_lt hd (by omega)) ⟨vp_in_nI (by omega) (by omega), nm_r (e' := upd gk d0 f) (by rw [nI_clamp (by omega)]) ⟨vp_in_nI (by omega) (by omega), nm_r (e' := upd gn d0 (nI n)) (by rw [nI_clamp (by omega)]) ⟨9, this⟩⟩⟩
theorem yw_fill_l {post : SY → Prop} {b : Nat} {m : Int32} (hb : b < 4096) (h : post (fu, ll, dl, nc, bs, hK, hV, ca, pk, ct, wt, lc, sp, ye, yc, rK, rV, Nk, Na, N2, C1, C2, C3, Nf, bk, cl, sc_wr ck (b * 8) (fun y => if bt m y = true then yk y else 0) 8, sc_wr cv (b * 8) (fun y => if bt m y = true then yv y else 0) 8, mk, wk, rm, gk, gn, ge, gv, gp, gq, yk, yv, 32768, 32768)) : ∀ d i, i + d = 8 → wY_fillEnv_2 post (nI b) m fu ll dl nc bs hK hV ca pk ct wt lc sp ye yc rK rV 32768 32768 (d + 1) (nI i) Nk Na N2 C1 C2 C3 Nf bk cl (sc_wr ck (b * 8) (fun y => if bt m y = true then yk y else 0) i) (sc_wr cv (b * 8) (fun y => if bt m y = true then yv y else 0) i) mk wk rm gk gn ge gv gp gq yk yv := by
  intro d
  induction d with
  | zero =>
    intro i hi
    have : i = 8 := by omega
    subst this
    exact br_t (nI_le (a := 8) (b := 8) (by omega) (by omega)) h
  | succ d ih =>
    intro i hi
    have ih' := ih (i + 1) (by omega)
    refine br_f (nI_ge (a := i) (b := 8) (by omega) (by omega)) ?_
    cases hm : bt m i with
    | false =>
      refine br_t ((sc_bit m (by omega)).mpr hm) (br_t rfl ⟨pk_in (b * 8 + i) 32768 (by omega) (sc_a8 b i), ?_⟩)
      refine nm_r (e' := sc_wr ck (b * 8) (fun y => if bt m y = true then yk y else 0) (i + 1)) (sc_wr_u (sc_c8 (by omega)) (by simp [hm])) (br_t rfl ⟨pk_in (b * 8 + i) 32768 (by omega) (sc_a8 b i), ?_⟩)
      refine nm_r (e' := sc_wr cv (b * 8) (fun y => if bt m y = true then yv y else 0) (i + 1)) (sc_wr_u (sc_c8 (by omega)) (by simp [hm])) ?_
      exact nm_r (nI_1 i) ih'
    | true =>
      refine br_f (fun z => by rw [(sc_bit m (by omega)).mp z] at hm; cases hm) (br_f (by decide) ⟨vp_in_nI (by omega) (by omega), pk_in (b * 8 + i) 32768 (by omega) (sc_a8 b i), ?_⟩)
      refine nm_r (e' := sc_wr ck (b * 8) (fun y => if bt m y = true then yk y else 0) (i + 1)) (sc_wr_u (sc_c8 (by omega)) (by rw [nI_clamp (by omega)]; simp [hm])) (br_f (by decide) ⟨vp_in_nI (by omega) (by omega), pk_in (b * 8 + i) 32768 (by omega) (sc_a8 b i), ?_⟩)
      refine nm_r (e' := sc_wr cv (b * 8) (fun y => if bt m y = true then yv y else 0) (i + 1)) (sc_wr_u (sc_c8 (by omega)) (by rw [nI_clamp (by omega)]; simp [hm])) ?_
      exact nm_r (nI_1 i) ih'
theorem yw_fill {post : SY → Prop} {b : Nat} {m : Int32} (hb : b < 4096) (h : post (fu, ll, dl, nc, bs, hK, hV, ca, pk, ct, wt, lc, sp, ye, yc, rK, rV, Nk, Na, N2, C1, C2, C3, Nf, bk, cl, sc_wr ck (b * 8) (fun y => if bt m y = true then yk y else 0) 8, sc_wr cv (b * 8) (fun y => if bt m y = true then yv y else 0) 8, mk, wk, rm, gk, gn, ge, gv, gp, gq, yk, yv, 32768, 32768)) : wpY_fillEnv post (fu, ll, dl, nc, bs, hK, hV, ca, pk, ct, wt, lc, sp, ye, yc, rK, rV, Nk, Na, N2, C1, C2, C3, Nf, bk, cl, ck, cv, mk, wk, rm, gk, gn, ge, gv, gp, gq, yk, yv, 32768, 32768) (nI b) m := by
  have := yw_fill_l hb h 8 0 (by omega)
  rw [sc_wr0, sc_wr0] at this
  exact ⟨9, this⟩
theorem yw_alloc {post : Int32 → SY → Prop} {T : Nat} {l : Int32} (hT : T < 4096) (h : post (nI T) (fu, ll, dl, nc, bs, hK, hV, ca, pk, nI (T + 1), wt, lc, sp, ye, yc, rK, rV, Nk, Na, N2, C1, C2, C3, Nf, bk, upd cl T l, ck, cv, mk, wk, rm, gk, gn, ge, gv, gp, gq, yk, yv, 32768, 32768)) : wpY_allocate post (fu, ll, dl, nc, bs, hK, hV, ca, pk, nI T, wt, lc, sp, ye, yc, rK, rV, Nk, Na, N2, C1, C2, C3, Nf, bk, cl, ck, cv, mk, wk, rm, gk, gn, ge, gv, gp, gq, yk, yv, 32768, 32768) l := by
  unfold wpY_allocate
  exact br_t (nI_lt (a := T) (b := 4096) hT (by omega)) (nm_r (nI_1 T) ⟨vp_in_nI hT (by omega), nm_r (e' := upd cl T l) (by rw [nI_clamp (by omega)]) h⟩)
theorem yw_begin_l {post : SY → Prop} {T : Nat} (hT : T ≤ 4096) (h : post (fu, ll, dl, nc, bs, hK, hV, ca, pk, nI T, 0, 0, sp, ye, yc, rK, rV, Nk, Na, N2, C1, C2, C3, Nf, bk, cl, ck, cv, sc_wr mk 0 (fun _ => 0) T, wk, rm, gk, gn, ge, gv, gp, gq, yk, yv, 32768, 32768)) : ∀ d i, i + d = T → wY_beginCheck_2 post fu ll dl nc bs hK hV ca pk (nI T) wt lc sp ye yc rK rV 32768 32768 (d + 1) (nI i) Nk Na N2 C1 C2 C3 Nf bk cl ck cv (sc_wr mk 0 (fun _ => 0) i) wk rm gk gn ge gv gp gq yk yv := by
  intro d
  induction d with
  | zero =>
    intro i hi
    have : i = T := by omega
    subst this
    exact br_t (nI_le (a := i) (b := i) (by omega) (by omega)) h
  | succ d ih =>
    intro i hi
    refine br_f (nI_ge (a := i) (b := T) (by omega) (by omega)) ⟨vp_in_nI (by omega) (by omega), ?_⟩
    refine nm_r (e' := sc_wr mk 0 (fun _ => 0) (i + 1)) (sc_wr_u (by rw [nI_clamp (by omega)]; omega) sc_nb0) ?_
    exact nm_r (nI_1 i) (ih (i + 1) (by omega))
theorem yw_begin {post : SY → Prop} {T : Nat} (hT : T ≤ 4096) (h : post (fu, ll, dl, nc, bs, hK, hV, ca, pk, nI T, 0, 0, sp, ye, yc, rK, rV, Nk, Na, N2, C1, C2, C3, Nf, bk, cl, ck, cv, sc_wr mk 0 (fun _ => 0) T, wk, rm, gk, gn, ge, gv, gp, gq, yk, yv, 32768, 32768)) : wpY_beginCheck post (fu, ll, dl, nc, bs, hK, hV, ca, pk, nI T, wt, lc, sp, ye, yc, rK, rV, Nk, Na, N2, C1, C2, C3, Nf, bk, cl, ck, cv, mk, wk, rm, gk, gn, ge, gv, gp, gq, yk, yv, 32768, 32768) := by
  have := yw_begin_l (wt := wt) (lc := lc) hT h T 0 (by omega)
  rw [sc_wr0] at this
  exact ⟨T + 1, this⟩
end
end
section
/-! ===== the reference's live check ===== -/
/-- marked so far: c closures listed by q; p of them wait, listed by w -/
def sc_YS (T : Nat) (mk wk : Nat → Int32) (lc wt : Int32) (c p : Nat) (q w : Nat → Nat) : Prop := lc = nI c ∧ wt = nI p ∧ p ≤ c ∧ (∀ i, i < c → q i < T) ∧ (∀ i j, i < c → j < c → q i = q j → i = j) ∧ (∀ j, j < T → (mk j = 1 ∧ sc_in c q j) ∨ (mk j = 0 ∧ ¬ sc_in c q j)) ∧ ∀ i, i < p → wk i = nI (w i) ∧ sc_in c q (w i)
/-- what is new is listed behind, and waits -/
def sc_YX (c p : Nat) (q w : Nat → Nat) (c' p' : Nat) (q' w' : Nat → Nat) : Prop := sc_ex c q c' q' ∧ sc_ex p w p' w' ∧ c' + p = c + p' ∧ ∀ i, i < c' → i < c ∨ sc_in p' w' (q' i)
theorem sc_YX_r {c p : Nat} {q w : Nat → Nat} : sc_YX c p q w c p q w := ⟨sc_ex_r, sc_ex_r, rfl, fun _ hi => Or.inl hi⟩
theorem sc_YX_t {c p c' p' c'' p'' : Nat} {q w q' w' q'' w'' : Nat → Nat} (h : sc_YX c p q w c' p' q' w') (k : sc_YX c' p' q' w' c'' p'' q'' w'') : sc_YX c p q w c'' p'' q'' w'' := by
  refine ⟨sc_ex_t h.1 k.1, sc_ex_t h.2.1 k.2.1, by have := h.2.2.1; have := k.2.2.1; omega, fun i hi => ?_⟩
  rcases k.2.2.2 i hi with a | a
  · rcases h.2.2.2 i a with b | b
    · exact Or.inl b
    · refine Or.inr ?_
      rw [k.1.2 i a]
      exact sc_ex_in k.2.1 b
  · exact Or.inr a
theorem sc_YS_b {T : Nat} {mk wk : Nat → Int32} {lc wt : Int32} {c p : Nat} {q w : Nat → Nat} (h : sc_YS T mk wk lc wt c p q w) : c ≤ T := by
  refine sc_pig (T := fun i j => q i = j) (fun i hi => ⟨q i, h.2.2.2.1 i hi, rfl⟩) ?_
  intro i k j hi hk a b
  exact h.2.2.2.2.1 i k hi hk (a.trans b.symm)
theorem sc_YS_p {T : Nat} {mk wk : Nat → Int32} {lc wt : Int32} {c p j : Nat} {q w : Nat → Nat} (h : sc_YS T mk wk lc wt c p q w) (hj : j < T) (hn : ¬ sc_in c q j) : sc_YS T (upd mk j 1) (upd wk p (nI j)) (nI (c + 1)) (nI (p + 1)) (c + 1) (p + 1) (fun i => if i = c then j else q i) (fun i => if i = p then j else w i) := by
  obtain ⟨_, _, h3, h4, h5, h6, h7⟩ := h
  have ne : ∀ i, i < c → q i ≠ j := fun i hi e => hn ⟨i, hi, e⟩
  have hin : ∀ t, sc_in c q t → sc_in (c + 1) (fun i => if i = c then j else q i) t := fun t ht => sc_ex_in sc_ex_p ht
  refine ⟨rfl, rfl, by omega, ?_, ?_, ?_, ?_⟩
  · intro i hi
    dsimp only
    by_cases e : i = c
    · rw [if_pos e]; exact hj
    · rw [if_neg e]; exact h4 i (by omega)
  · intro i k hi hk e
    dsimp only at e
    by_cases e1 : i = c
    · by_cases e2 : k = c
      · rw [e1, e2]
      · rw [if_pos e1, if_neg e2] at e
        exact absurd e.symm (ne k (by omega))
    · by_cases e2 : k = c
      · rw [if_neg e1, if_pos e2] at e
        exact absurd e (ne i (by omega))
      · rw [if_neg e1, if_neg e2] at e
        exact h5 i k (by omega) (by omega) e
  · intro t ht
    by_cases e : t = j
    · subst e
      exact Or.inl ⟨pk_us, c, by omega, if_pos rfl⟩
    · rw [pk_un e]
      rcases h6 t ht with ⟨a, b⟩ | ⟨a, b⟩
      · exact Or.inl ⟨a, hin t b⟩
      · refine Or.inr ⟨a, ?_⟩
        intro hi
        obtain ⟨i, hi, ei⟩ := hi
        dsimp only at ei
        by_cases e1 : i = c
        · rw [if_pos e1] at ei
          exact e ei.symm
        · rw [if_neg e1] at ei
          exact b ⟨i, by omega, ei⟩
  · intro i hi
    dsimp only
    by_cases e : i = p
    · subst e
      rw [if_pos rfl, pk_us]
      exact ⟨rfl, c, by omega, if_pos rfl⟩
    · rw [if_neg e, pk_un e]
      exact ⟨(h7 i (by omega)).1, hin _ (h7 i (by omega)).2⟩
section
variable {fu ll dl nc bs hK hV ca pk ct wt lc sp ye yc rK rV : Int32} {Nk Na N2 C1 C2 C3 Nf bk cl ck cv mk wk rm gk gn ge gv gp gq yk yv : Nat → Int32}
theorem yw_mark {T c p : Nat} {q w : Nat → Nat} {k v : Int32} (H : sc_YS T mk wk lc wt c p q w) (hT : T ≤ 4096) (hk : k = 2 → ∃ j, j < T ∧ v = nI j) : ∃ mk' wk' lc' wt' c' p' q' w', sc_YS T mk' wk' lc' wt' c' p' q' w' ∧ sc_YX c p q w c' p' q' w' ∧ (k = 2 → ∃ j, j < T ∧ v = nI j ∧ sc_in c' q' j) ∧ (∀ i, i < c' → i < c ∨ (k = 2 ∧ v = nI (q' i))) ∧ ∀ post : SY → Prop, post (fu, ll, dl, nc, bs, hK, hV, ca, pk, ct, wt', lc', sp, ye, yc, rK, rV, Nk, Na, N2, C1, C2, C3, Nf, bk, cl, ck, cv, mk', wk', rm, gk, gn, ge, gv, gp, gq, yk, yv, 32768, 32768) → wpY_markValue post (fu, ll, dl, nc, bs, hK, hV, ca, pk, ct, wt, lc, sp, ye, yc, rK, rV, Nk, Na, N2, C1, C2, C3, Nf, bk, cl, ck, cv, mk, wk, rm, gk, gn, ge, gv, gp, gq, yk, yv, 32768, 32768) k v := by
  by_cases e : k = 2
  · obtain ⟨j, hj, ej⟩ := hk e
    subst ej
    rcases H.2.2.2.2.2.1 j hj with ⟨a, b⟩ | ⟨a, b⟩
    · refine ⟨mk, wk, lc, wt, c, p, q, w, H, sc_YX_r, fun _ => ⟨j, hj, rfl, b⟩, fun i hi => Or.inl hi, fun post h => ?_⟩
      exact br_t e (br_f (nI_pos (by omega)) (br_f (nI_ge (a := j) (b := 4096) (by omega) (by omega)) ⟨vp_in_nI (by omega) (by omega), br_f (by rw [nI_clamp (by omega), a]; decide) h⟩))
    · have H' := sc_YS_p H hj b
      have hc := sc_YS_b H'
      have h1 := H.1
      have h2 := H.2.1
      have h3 := H.2.2.1
      refine ⟨_, _, _, _, _, _, _, _, H', ⟨sc_ex_p, sc_ex_p, by omega, ?_⟩, fun _ => ⟨j, hj, rfl, c, by omega, if_pos rfl⟩, ?_, fun post h => ?_⟩
      · intro i hi
        by_cases ei : i = c
        · exact Or.inr ⟨p, by omega, by dsimp only; rw [if_pos rfl, if_pos ei]⟩
        · exact Or.inl (by omega)
      · intro i hi
        by_cases ei : i = c
        · exact Or.inr ⟨e, by rw [if_pos ei]⟩
        · exact Or.inl (by omega)
      · refine br_t e (br_f (nI_pos (by omega)) (br_f (nI_ge (a := j) (b := 4096) (by omega) (by omega)) ⟨vp_in_nI (by omega) (by omega), br_t (by rw [nI_clamp (by omega)]; exact a) ⟨vp_in_nI (by omega) (by omega), nm_r (e' := upd mk j 1) (by rw [nI_clamp (by omega), sc_nb1]) (nm_r (e' := nI (c + 1)) (by rw [h1, nI_1]) (br_f (by rw [h2]; exact nI_ge (a := p) (b := 4096) (by omega) (by omega)) ⟨pk_in p 4096 (by omega) h2, nm_r (e' := upd wk p (nI j)) (by rw [h2, nI_clamp (by omega)]) (nm_r (e' := nI (p + 1)) (by rw [h2, nI_1]) h)⟩))⟩⟩))
  · exact ⟨mk, wk, lc, wt, c, p, q, w, H, sc_YX_r, fun z => absurd z e, fun i hi => Or.inl hi, fun post h => br_f e h⟩
theorem yw_rowE {T c p : Nat} {q w : Nat → Nat} {m : Int32} (H : sc_YS T mk wk lc wt c p q w) (hT : T ≤ 4096) (hk : ∀ y, y < 8 → bt m y = true → yk y = 2 → ∃ j, j < T ∧ yv y = nI j) : ∃ mk' wk' lc' wt' c' p' q' w', sc_YS T mk' wk' lc' wt' c' p' q' w' ∧ sc_YX c p q w c' p' q' w' ∧ (∀ y, y < 8 → bt m y = true → yk y = 2 → ∃ j, j < T ∧ yv y = nI j ∧ sc_in c' q' j) ∧ (∀ i, i < c' → i < c ∨ ∃ y, y < 8 ∧ bt m y = true ∧ yk y = 2 ∧ yv y = nI (q' i)) ∧ ∀ post : SY → Prop, post (fu, ll, dl, nc, bs, hK, hV, ca, pk, ct, wt', lc', sp, ye, yc, rK, rV, Nk, Na, N2, C1, C2, C3, Nf, bk, cl, ck, cv, mk', wk', rm, gk, gn, ge, gv, gp, gq, yk, yv, 32768, 32768) → wpY_markEnv post (fu, ll, dl, nc, bs, hK, hV, ca, pk, ct, wt, lc, sp, ye, yc, rK, rV, Nk, Na, N2, C1, C2, C3, Nf, bk, cl, ck, cv, mk, wk, rm, gk, gn, ge, gv, gp, gq, yk, yv, 32768, 32768) m := by
  have L := sc_loop (P := SY → Prop) (S := (Nat → Int32) × (Nat → Int32) × Int32 × Int32) (fun o n i s => wY_markEnv_2 o m n (nI i) fu ll dl nc bs hK hV ca pk ct s.2.2.2 s.2.2.1 sp ye yc rK rV Nk Na N2 C1 C2 C3 Nf bk cl ck cv s.1 s.2.1 rm gk gn ge gv gp gq yk yv 32768 32768) (fun o s => o (fu, ll, dl, nc, bs, hK, hV, ca, pk, ct, s.2.2.2, s.2.2.1, sp, ye, yc, rK, rV, Nk, Na, N2, C1, C2, C3, Nf, bk, cl, ck, cv, s.1, s.2.1, rm, gk, gn, ge, gv, gp, gq, yk, yv, 32768, 32768)) (fun j s => ∃ c' p' q' w', sc_YS T s.1 s.2.1 s.2.2.1 s.2.2.2 c' p' q' w' ∧ sc_YX c p q w c' p' q' w' ∧ (∀ y, y < j → bt m y = true → yk y = 2 → ∃ j, j < T ∧ yv y = nI j ∧ sc_in c' q' j) ∧ (∀ i, i < c' → i < c ∨ ∃ y, y < 8 ∧ bt m y = true ∧ yk y = 2 ∧ yv y = nI (q' i))) 8 ?_ ?_ 8 0 (mk, wk, lc, wt) rfl ⟨c, p, q, w, H, sc_YX_r, fun y hy => absurd hy (Nat.not_lt_zero y), fun i hi => Or.inl hi⟩
  · obtain ⟨s', ⟨c', p', q', w', a1, a2, a3, a4⟩, KK⟩ := L
    exact ⟨_, _, _, _, c', p', q', w', a1, a2, a3, a4, fun post h => ⟨9, KK post 9 (by omega) h⟩⟩
  · intro o n s _ hp
    exact br_t (nI_le (a := 8) (b := 8) (by omega) (by omega)) hp
  · intro i s hi hI
    obtain ⟨c', p', q', w', a1, a2, a3, a4⟩ := hI
    cases hm : bt m i with
    | false =>
      refine ⟨s, ⟨c', p', q', w', a1, a2, ?_, a4⟩, fun o n h => br_f (nI_ge (a := i) (b := 8) (by omega) (by omega)) (br_t ((sc_bit m (by omega)).mpr hm) (nm_r (nI_1 i) h))⟩
      intro y hy hb
      by_cases e : y = i
      · rw [e, hm] at hb; cases hb
      · exact a3 y (by omega) hb
    | true =>
      obtain ⟨mk', wk', lc', wt', c2, p2, q2, w2, b1, b2, b3, b4, KK⟩ := yw_mark (fu := fu) (ll := ll) (dl := dl) (nc := nc) (bs := bs) (hK := hK) (hV := hV) (ca := ca) (pk := pk) (ct := ct) (sp := sp) (ye := ye) (yc := yc) (rK := rK) (rV := rV) (Nk := Nk) (Na := Na) (N2 := N2) (C1 := C1) (C2 := C2) (C3 := C3) (Nf := Nf) (bk := bk) (cl := cl) (ck := ck) (cv := cv) (rm := rm) (gk := gk) (gn := gn) (ge := ge) (gv := gv) (gp := gp) (gq := gq) (yk := yk) (yv := yv) a1 hT (hk i hi hm)
      refine ⟨(mk', wk', lc', wt'), ⟨c2, p2, q2, w2, b1, sc_YX_t a2 b2, ?_, ?_⟩, fun o n h => br_f (nI_ge (a := i) (b := 8) (by omega) (by omega)) (br_f (fun z => by rw [(sc_bit m (by omega)).mp z] at hm; cases hm) ⟨vp_in_nI (by omega) (by omega), vp_in_nI (by omega) (by omega), ?_⟩)⟩
      · intro y hy hb h2
        by_cases e : y = i
        · subst e
          exact b3 h2
        · obtain ⟨j, h3, h4, h5⟩ := a3 y (by omega) hb h2
          exact ⟨j, h3, h4, sc_ex_in b2.1 h5⟩
      · intro j hj
        rcases b4 j hj with h1 | ⟨h1, h2⟩
        · rw [b2.1.2 j h1]
          exact a4 j h1
        · exact Or.inr ⟨i, hi, hm, h1, h2⟩
      · rw [nI_clamp (n := i) (by omega)]
        exact KK _ (nm_r (nI_1 i) h)
theorem yw_rowD {T c p a : Nat} {q w : Nat → Nat} (H : sc_YS T mk wk lc wt c p q w) (hT : T ≤ 4096) (ha : a < T) (hk : ∀ y, y < 8 → ck (a * 8 + y) = 2 → ∃ j, j < T ∧ cv (a * 8 + y) = nI j) : ∃ mk' wk' lc' wt' c' p' q' w', sc_YS T mk' wk' lc' wt' c' p' q' w' ∧ sc_YX c p q w c' p' q' w' ∧ (∀ y, y < 8 → ck (a * 8 + y) = 2 → ∃ j, j < T ∧ cv (a * 8 + y) = nI j ∧ sc_in c' q' j) ∧ (∀ i, i < c' → i < c ∨ ∃ y, y < 8 ∧ ck (a * 8 + y) = 2 ∧ cv (a * 8 + y) = nI (q' i)) ∧ ∀ (post : SY → Prop) J2 x1 n, 8 < n → J2 (x1 + 1) fu ll dl nc bs hK hV ca pk ct wt' lc' sp ye yc rK rV Nk Na N2 C1 C2 C3 Nf bk cl ck cv mk' wk' rm gk gn ge gv gp gq yk yv 32768 32768 → wY_drain_38 post J2 x1 (nI a) n 0 fu ll dl nc bs hK hV ca pk ct wt lc sp ye yc rK rV Nk Na N2 C1 C2 C3 Nf bk cl ck cv mk wk rm gk gn ge gv gp gq yk yv 32768 32768 := by
  have L := sc_loop (P := (SY → Prop) × _ × Int32) (S := (Nat → Int32) × (Nat → Int32) × Int32 × Int32) (fun o n i s => wY_drain_38 o.1 o.2.1 o.2.2 (nI a) n (nI i) fu ll dl nc bs hK hV ca pk ct s.2.2.2 s.2.2.1 sp ye yc rK rV Nk Na N2 C1 C2 C3 Nf bk cl ck cv s.1 s.2.1 rm gk gn ge gv gp gq yk yv 32768 32768) (fun o s => o.2.1 (o.2.2 + 1) fu ll dl nc bs hK hV ca pk ct s.2.2.2 s.2.2.1 sp ye yc rK rV Nk Na N2 C1 C2 C3 Nf bk cl ck cv s.1 s.2.1 rm gk gn ge gv gp gq yk yv 32768 32768) (fun j s => ∃ c' p' q' w', sc_YS T s.1 s.2.1 s.2.2.1 s.2.2.2 c' p' q' w' ∧ sc_YX c p q w c' p' q' w' ∧ (∀ y, y < j → ck (a * 8 + y) = 2 → ∃ j, j < T ∧ cv (a * 8 + y) = nI j ∧ sc_in c' q' j) ∧ (∀ i, i < c' → i < c ∨ ∃ y, y < 8 ∧ ck (a * 8 + y) = 2 ∧ cv (a * 8 + y) = nI (q' i))) 8 ?_ ?_ 8 0 (mk, wk, lc, wt) rfl ⟨c, p, q, w, H, sc_YX_r, fun y hy => absurd hy (Nat.not_lt_zero y), fun i hi => Or.inl hi⟩
  · obtain ⟨s', ⟨c', p', q', w', a1, a2, a3, a4⟩, KK⟩ := L
    exact ⟨_, _, _, _, c', p', q', w', a1, a2, a3, a4, fun post J2 x1 n hn h => KK (post, J2, x1) n hn h⟩
  · intro o n s _ hp
    exact br_t (nI_le (a := 8) (b := 8) (by omega) (by omega)) (nm_e hp)
  · intro i s hi hI
    obtain ⟨c', p', q', w', a1, a2, a3, a4⟩ := hI
    obtain ⟨mk', wk', lc', wt', c2, p2, q2, w2, b1, b2, b3, b4, KK⟩ := yw_mark (fu := fu) (ll := ll) (dl := dl) (nc := nc) (bs := bs) (hK := hK) (hV := hV) (ca := ca) (pk := pk) (ct := ct) (sp := sp) (ye := ye) (yc := yc) (rK := rK) (rV := rV) (Nk := Nk) (Na := Na) (N2 := N2) (C1 := C1) (C2 := C2) (C3 := C3) (Nf := Nf) (bk := bk) (cl := cl) (ck := ck) (cv := cv) (rm := rm) (gk := gk) (gn := gn) (ge := ge) (gv := gv) (gp := gp) (gq := gq) (yk := yk) (yv := yv) a1 hT (hk i hi)
    refine ⟨(mk', wk', lc', wt'), ⟨c2, p2, q2, w2, b1, sc_YX_t a2 b2, ?_, ?_⟩, fun o n h => br_f (nI_ge (a := i) (b := 8) (by omega) (by omega)) (⟨pk_in (a * 8 + i) 32768 (by omega) (sc_a8 a i), pk_in (a * 8 + i) 32768 (by omega) (sc_a8 a i), ?_⟩)⟩
    · intro y hy h2
      by_cases e : y = i
      · subst e
        exact b3 h2
      · obtain ⟨j, h3, h4, h5⟩ := a3 y (by omega) h2
        exact ⟨j, h3, h4, sc_ex_in b2.1 h5⟩
    · intro j hj
      rcases b4 j hj with h1 | ⟨h1, h2⟩
      · rw [b2.1.2 j h1]
        exact a4 j h1
      · exact Or.inr ⟨i, hi, h1, h2⟩
    · rw [sc_c8 (i := a) (j := i) (by omega)]
      exact KK _ (nm_r (nI_1 i) h)
theorem yw_rowF {T c p b : Nat} {q w : Nat → Nat} {m : Int32} (H : sc_YS T mk wk lc wt c p q w) (hT : T ≤ 4096) (hb : b < 32) (hk : ∀ y, y < 8 → bt m y = true → ge (b * 8 + y) = 2 → ∃ j, j < T ∧ gv (b * 8 + y) = nI j) : ∃ mk' wk' lc' wt' c' p' q' w', sc_YS T mk' wk' lc' wt' c' p' q' w' ∧ sc_YX c p q w c' p' q' w' ∧ (∀ y, y < 8 → bt m y = true → ge (b * 8 + y) = 2 → ∃ j, j < T ∧ gv (b * 8 + y) = nI j ∧ sc_in c' q' j) ∧ (∀ i, i < c' → i < c ∨ ∃ y, y < 8 ∧ bt m y = true ∧ ge (b * 8 + y) = 2 ∧ gv (b * 8 + y) = nI (q' i)) ∧ ∀ (post : Int32 → SY → Prop) J2 n, 8 < n → J2 (nI (b + 1)) fu ll dl nc bs hK hV ca pk ct wt' lc' sp ye yc rK rV Nk Na N2 C1 C2 C3 Nf bk cl ck cv mk' wk' rm gk gn ge gv gp gq yk yv 32768 32768 → wY_endCheck_111 post J2 (nI b) m n 0 fu ll dl nc bs hK hV ca pk ct wt lc sp ye yc rK rV Nk Na N2 C1 C2 C3 Nf bk cl ck cv mk wk rm gk gn ge gv gp gq yk yv 32768 32768 := by
  have L := sc_loop (P := (Int32 → SY → Prop) × _) (S := (Nat → Int32) × (Nat → Int32) × Int32 × Int32) (fun o n i s => wY_endCheck_111 o.1 o.2 (nI b) m n (nI i) fu ll dl nc bs hK hV ca pk ct s.2.2.2 s.2.2.1 sp ye yc rK rV Nk Na N2 C1 C2 C3 Nf bk cl ck cv s.1 s.2.1 rm gk gn ge gv gp gq yk yv 32768 32768) (fun o s => o.2 (nI (b + 1)) fu ll dl nc bs hK hV ca pk ct s.2.2.2 s.2.2.1 sp ye yc rK rV Nk Na N2 C1 C2 C3 Nf bk cl ck cv s.1 s.2.1 rm gk gn ge gv gp gq yk yv 32768 32768) (fun j s => ∃ c' p' q' w', sc_YS T s.1 s.2.1 s.2.2.1 s.2.2.2 c' p' q' w' ∧ sc_YX c p q w c' p' q' w' ∧ (∀ y, y < j → bt m y = true → ge (b * 8 + y) = 2 → ∃ j, j < T ∧ gv (b * 8 + y) = nI j ∧ sc_in c' q' j) ∧ (∀ i, i < c' → i < c ∨ ∃ y, y < 8 ∧ bt m y = true ∧ ge (b * 8 + y) = 2 ∧ gv (b * 8 + y) = nI (q' i))) 8 ?_ ?_ 8 0 (mk, wk, lc, wt) rfl ⟨c, p, q, w, H, sc_YX_r, fun y hy => absurd hy (Nat.not_lt_zero y), fun i hi => Or.inl hi⟩
  · obtain ⟨s', ⟨c', p', q', w', a1, a2, a3, a4⟩, KK⟩ := L
    exact ⟨_, _, _, _, c', p', q', w', a1, a2, a3, a4, fun post J2 n hn h => KK (post, J2) n hn h⟩
  · intro o n s _ hp
    exact br_t (nI_le (a := 8) (b := 8) (by omega) (by omega)) (nm_r (nI_1 b) hp)
  · intro i s hi hI
    obtain ⟨c', p', q', w', a1, a2, a3, a4⟩ := hI
    cases hm : bt m i with
    | false =>
      refine ⟨s, ⟨c', p', q', w', a1, a2, ?_, a4⟩, fun o n h => br_f (nI_ge (a := i) (b := 8) (by omega) (by omega)) (br_t ((sc_bit m (by omega)).mpr hm) (nm_r (nI_1 i) h))⟩
      intro y hy hb
      by_cases e : y = i
      · rw [e, hm] at hb; cases hb
      · exact a3 y (by omega) hb
    | true =>
      obtain ⟨mk', wk', lc', wt', c2, p2, q2, w2, b1, b2, b3, b4, KK⟩ := yw_mark (fu := fu) (ll := ll) (dl := dl) (nc := nc) (bs := bs) (hK := hK) (hV := hV) (ca := ca) (pk := pk) (ct := ct) (sp := sp) (ye := ye) (yc := yc) (rK := rK) (rV := rV) (Nk := Nk) (Na := Na) (N2 := N2) (C1 := C1) (C2 := C2) (C3 := C3) (Nf := Nf) (bk := bk) (cl := cl) (ck := ck) (cv := cv) (rm := rm) (gk := gk) (gn := gn) (ge := ge) (gv := gv) (gp := gp) (gq := gq) (yk := yk) (yv := yv) a1 hT (hk i hi hm)
      refine ⟨(mk', wk', lc', wt'), ⟨c2, p2, q2, w2, b1, sc_YX_t a2 b2, ?_, ?_⟩, fun o n h => br_f (nI_ge (a := i) (b := 8) (by omega) (by omega)) (br_f (fun z => by rw [(sc_bit m (by omega)).mp z] at hm; cases hm) ⟨pk_in (b * 8 + i) 256 (by omega) (sc_a8 b i), pk_in (b * 8 + i) 256 (by omega) (sc_a8 b i), ?_⟩)⟩
      · intro y hy hb h2
        by_cases e : y = i
        · subst e
          exact b3 h2
        · obtain ⟨j, h3, h4, h5⟩ := a3 y (by omega) hb h2
          exact ⟨j, h3, h4, sc_ex_in b2.1 h5⟩
      · intro j hj
        rcases b4 j hj with h1 | ⟨h1, h2⟩
        · rw [b2.1.2 j h1]
          exact a4 j h1
        · exact Or.inr ⟨i, hi, hm, h1, h2⟩
      · rw [sc_c8 (i := b) (j := i) (by omega)]
        exact KK _ (nm_r (nI_1 i) h)
end
end
section
/-! ===== the reference's drain, frames, end of the check ===== -/
/-- what a closure of the reference holds -/
def sc_EY (ck cv : Nat → Int32) (T a b : Nat) : Prop := b < T ∧ ∃ y, y < 8 ∧ ck (a * 8 + y) = 2 ∧ cv (a * 8 + y) = nI b
section
variable {fu ll dl nc bs hK hV ca pk ct wt lc sp ye yc rK rV : Int32} {Nk Na N2 C1 C2 C3 Nf bk cl ck cv mk wk rm gk gn ge gv gp gq yk yv : Nat → Int32}
theorem yw_drain_l {T : Nat} {R : Nat → Prop} (hT : T ≤ 4096) (hR : ∀ j, R j → j < T) (hk : ∀ j, R j → ∀ y, y < 8 → ck (j * 8 + y) = 2 → ∃ t, R t ∧ cv (j * 8 + y) = nI t) : ∀ (d k : Nat) (mk wk : Nat → Int32) (lc wt : Int32) (c p : Nat) (q w : Nat → Nat), k + d = 4096 → k + p = c → sc_YS T mk wk lc wt c p q w → (∀ i, i < c → R (q i)) → (∀ j, sc_in c q j → sc_in p w j ∨ ∀ t, sc_EY ck cv T j t → sc_in c q t) → ∃ mk' wk' lc' wt' c' q' w', sc_YS T mk' wk' lc' wt' c' 0 q' w' ∧ sc_ex c q c' q' ∧ (∀ i, i < c' → R (q' i)) ∧ (∀ j t, sc_in c' q' j → sc_EY ck cv T j t → sc_in c' q' t) ∧ ∀ (post : SY → Prop) n, d < n → post (fu, ll, dl, nc, bs, hK, hV, ca, pk, ct, wt', lc', sp, ye, yc, rK, rV, Nk, Na, N2, C1, C2, C3, Nf, bk, cl, ck, cv, mk', wk', rm, gk, gn, ge, gv, gp, gq, yk, yv, 32768, 32768) → wY_drain_2 post n (nI k) fu ll dl nc bs hK hV ca pk ct wt lc sp ye yc rK rV Nk Na N2 C1 C2 C3 Nf bk cl ck cv mk wk rm gk gn ge gv gp gq yk yv 32768 32768 := by
  intro d
  induction d with
  | zero =>
    intro k mk wk lc wt c p q w hkd hkp H hq hp
    have hc := sc_YS_b H
    have hp0 : p = 0 := by omega
    subst hp0
    refine ⟨mk, wk, lc, wt, c, q, w, H, sc_ex_r, hq, ?_, fun post n hn h => ?_⟩
    · intro j t hj ht
      rcases hp j hj with ⟨i, hi, _⟩ | h
      · exact absurd hi (Nat.not_lt_zero i)
      · exact h t ht
    · obtain ⟨m, rfl⟩ : ∃ m, n = m + 1 := ⟨n - 1, by omega⟩
      have : k = 4096 := by omega
      subst this
      exact br_t (nI_le (a := 4096) (b := 4096) (by omega) (by omega)) h
  | succ d ih =>
    intro k mk wk lc wt c p q w hkd hkp H hq hp
    have hc := sc_YS_b H
    have hwt := H.2.1
    rcases Nat.eq_zero_or_pos p with hp0 | hpp
    · subst hp0
      refine ⟨mk, wk, lc, wt, c, q, w, H, sc_ex_r, hq, ?_, fun post n hn h => ?_⟩
      · intro j t hj ht
        rcases hp j hj with ⟨i, hi, _⟩ | h
        · exact absurd hi (Nat.not_lt_zero i)
        · exact h t ht
      · obtain ⟨m, rfl⟩ : ∃ m, n = m + 1 := ⟨n - 1, by omega⟩
        exact br_f (nI_ge (a := k) (b := 4096) (by omega) (by omega)) (br_t (by rw [hwt]; exact nI_le (a := 0) (b := 0) (by omega) (by omega)) h)
    · obtain ⟨p1, rfl⟩ : ∃ p1, p = p1 + 1 := ⟨p - 1, by omega⟩
      obtain ⟨h1, h2, h3, h4, h5, h6, h7⟩ := H
      have hw := h7 p1 (by omega)
      have hRa : R (w p1) := by
        obtain ⟨i, hi, e⟩ := hw.2
        rw [← e]
        exact hq i hi
      have H1 : sc_YS T mk wk lc (nI p1) c p1 q w := ⟨h1, rfl, by omega, h4, h5, h6, fun i hi => h7 i (by omega)⟩
      obtain ⟨mk2, wk2, lc2, wt2, c2, p2, q2, w2, b1, b2, b3, b4, K2⟩ := yw_rowD (fu := fu) (ll := ll) (dl := dl) (nc := nc) (bs := bs) (hK := hK) (hV := hV) (ca := ca) (pk := pk) (ct := ct) (sp := sp) (ye := ye) (yc := yc) (rK := rK) (rV := rV) (Nk := Nk) (Na := Na) (N2 := N2) (C1 := C1) (C2 := C2) (C3 := C3) (Nf := Nf) (bk := bk) (cl := cl) (ck := ck) (cv := cv) (rm := rm) (gk := gk) (gn := gn) (ge := ge) (gv := gv) (gp := gp) (gq := gq) (yk := yk) (yv := yv) (a := w p1) H1 hT (hR _ hRa) (by
        intro y hy e
        obtain ⟨t, ht, et⟩ := hk _ hRa y hy e
        exact ⟨t, hR t ht, et⟩)
      have hb3 := b2.2.2.1
      obtain ⟨mk3, wk3, lc3, wt3, c3, q3, w3, d1, d2, d3, d4, K3⟩ := ih (k + 1) mk2 wk2 lc2 wt2 c2 p2 q2 w2 (by omega) (by omega) b1 (by
        intro i hi
        rcases b4 i hi with h | ⟨y, hy, e1, e2⟩
        · rw [b2.1.2 i h]
          exact hq i h
        · obtain ⟨t, ht, et⟩ := hk _ hRa y hy e1
          have := hR t ht
          have := b1.2.2.2.1 i hi
          have e : q2 i = t := sc_nIi (e2.symm.trans et) (by omega) (by omega)
          rw [e]
          exact ht) (by
        intro j hj
        obtain ⟨i, hi, e⟩ := hj
        rcases b2.2.2.2 i hi with h | h
        · rw [b2.1.2 i h] at e
          rcases hp j ⟨i, h, e⟩ with ⟨i', hi', e'⟩ | hcl
          · by_cases e3 : i' = p1
            · subst e3
              refine Or.inr (fun t ht => ?_)
              obtain ⟨htT, y, hy, f1, f2⟩ := ht
              rw [← e'] at f1 f2
              obtain ⟨t', g1, g2, g3⟩ := b3 y hy f1
              have : t = t' := sc_nIi (f2.symm.trans g2) (by omega) (by omega)
              exact this ▸ g3
            · exact Or.inl (sc_ex_in b2.2.1 ⟨i', by omega, e'⟩)
          · exact Or.inr (fun t ht => sc_ex_in b2.1 (hcl t ht))
        · rw [e] at h
          exact Or.inl h)
      refine ⟨mk3, wk3, lc3, wt3, c3, q3, w3, d1, sc_ex_t b2.1 d2, d3, d4, fun post n hn h => ?_⟩
      obtain ⟨m, rfl⟩ : ∃ m, n = m + 1 := ⟨n - 1, by omega⟩
      refine br_f (nI_ge (a := k) (b := 4096) (by omega) (by omega)) (br_f (by rw [hwt]; exact nI_nle (by omega) (by omega)) (nm_r (e' := nI p1) (by rw [hwt]; exact nI_pred p1) ⟨vp_in_nI (by omega) (by omega), nm_r (e' := nI (w p1)) (by rw [nI_clamp (by omega)]; exact hw.1) ⟨9, K2 post (wY_drain_2 post m) (nI k) 9 (by omega) ?_⟩⟩))
      rw [nI_1]
      exact K3 post m (by omega) h
theorem yw_drain {T c : Nat} {q w : Nat → Nat} {R : Nat → Prop} (hT : T ≤ 4096) (hR : ∀ j, R j → j < T) (hk : ∀ j, R j → ∀ y, y < 8 → ck (j * 8 + y) = 2 → ∃ t, R t ∧ cv (j * 8 + y) = nI t) (H : sc_YS T mk wk lc wt c c q w) (hq : ∀ i, i < c → R (q i)) (hp : ∀ i, i < c → sc_in c w (q i)) : ∃ mk' wk' lc' wt' c' q' w', sc_YS T mk' wk' lc' wt' c' 0 q' w' ∧ sc_ex c q c' q' ∧ (∀ i, i < c' → R (q' i)) ∧ (∀ j t, sc_in c' q' j → sc_EY ck cv T j t → sc_in c' q' t) ∧ ∀ (post : SY → Prop), post (fu, ll, dl, nc, bs, hK, hV, ca, pk, ct, wt', lc', sp, ye, yc, rK, rV, Nk, Na, N2, C1, C2, C3, Nf, bk, cl, ck, cv, mk', wk', rm, gk, gn, ge, gv, gp, gq, yk, yv, 32768, 32768) → wpY_drain post (fu, ll, dl, nc, bs, hK, hV, ca, pk, ct, wt, lc, sp, ye, yc, rK, rV, Nk, Na, N2, C1, C2, C3, Nf, bk, cl, ck, cv, mk, wk, rm, gk, gn, ge, gv, gp, gq, yk, yv, 32768, 32768) := by
  obtain ⟨mk3, wk3, lc3, wt3, c3, q3, w3, d1, d2, d3, d4, K3⟩ := yw_drain_l (fu := fu) (ll := ll) (dl := dl) (nc := nc) (bs := bs) (hK := hK) (hV := hV) (ca := ca) (pk := pk) (ct := ct) (sp := sp) (ye := ye) (yc := yc) (rK := rK) (rV := rV) (Nk := Nk) (Na := Na) (N2 := N2) (C1 := C1) (C2 := C2) (C3 := C3) (Nf := Nf) (bk := bk) (cl := cl) (ck := ck) (cv := cv) (rm := rm) (gk := gk) (gn := gn) (ge := ge) (gv := gv) (gp := gp) (gq := gq) (yk := yk) (yv := yv) hT hR hk 4096 0 mk wk lc wt c c q w rfl (Nat.zero_add c) H hq (fun j hj => by
    obtain ⟨i, hi, e⟩ := hj
    exact Or.inl (e ▸ hp i hi))
  exact ⟨mk3, wk3, lc3, wt3, c3, q3, w3, d1, d2, d3, d4, fun post h => ⟨4097, K3 post 4097 (by omega) h⟩⟩
end
end
section
/-! ===== the reference's frames and the end of its check, against the component's roots ===== -/
theorem sc_rc1 {g : Nat → Nat} {U : Nat → Prop} {T : Nat} {m c : Int32} {r k w : Nat → Int32} (h : sc_RW g U m r c k w) (hT : ∀ s, U s → g s < T) {y : Nat} (hy : y < 8) (hm : bt m y = true) (hk : k y = 2) : ∃ s, U s ∧ bt c y = true ∧ r y = nI s ∧ w y = nI (g s) := by
  rcases h y hy hm with ⟨_, z, _⟩ | ⟨h1, h2, s, hs, e1, e2⟩
  · rw [hk] at z; exact absurd z (by decide)
  · exact ⟨s, hs, h1, e1, e2⟩
section
variable {fu ll dl nc bs hK hV ca pk ct wt lc sp ye yc rK rV : Int32} {Nk Na N2 C1 C2 C3 Nf bk cl ck cv mk wk rm gk gn ge gv gp gq yk yv : Nat → Int32}
variable {fk fn fl fm k2 k3 : Nat → Int32} {g sz : Nat → Nat} {U : Nat → Prop} {N T : Nat}
/-- one row of a frame: what is marked is what the component's row holds -/
theorem yw_frow {c p i : Nat} {q w : Nat → Nat} {m : Int32} (H : sc_YS T mk wk lc wt c p q w) (hT : T ≤ 4096) (hi : i < 32) (hU : ∀ s, U s → s < 34 ∧ g s < T) (h1 : sc_RW g U m (fun y => fl (i * 8 + y)) (fm i) (fun y => ge (i * 8 + y)) (fun y => gv (i * 8 + y))) (h2 : sc_CM m (fm i)) : ∃ mk' wk' lc' wt' c' p' q' w', sc_YS T mk' wk' lc' wt' c' p' q' w' ∧ sc_YX c p q w c' p' q' w' ∧ (∀ s, sc_FR fl fm i s → sc_in c' q' (g s)) ∧ (∀ j, j < c' → j < c ∨ ∃ s, sc_FR fl fm i s ∧ q' j = g s) ∧ ∀ (post : Int32 → SY → Prop) J2 n, 8 < n → J2 (nI (i + 1)) fu ll dl nc bs hK hV ca pk ct wt' lc' sp ye yc rK rV Nk Na N2 C1 C2 C3 Nf bk cl ck cv mk' wk' rm gk gn ge gv gp gq yk yv 32768 32768 → wY_endCheck_111 post J2 (nI i) m n 0 fu ll dl nc bs hK hV ca pk ct wt lc sp ye yc rK rV Nk Na N2 C1 C2 C3 Nf bk cl ck cv mk wk rm gk gn ge gv gp gq yk yv 32768 32768 := by
  obtain ⟨mk2, wk2, lc2, wt2, c2, p2, q2, w2, b1, b2, b3, b4, K2⟩ := yw_rowF (fu := fu) (ll := ll) (dl := dl) (nc := nc) (bs := bs) (hK := hK) (hV := hV) (ca := ca) (pk := pk) (ct := ct) (sp := sp) (ye := ye) (yc := yc) (rK := rK) (rV := rV) (Nk := Nk) (Na := Na) (N2 := N2) (C1 := C1) (C2 := C2) (C3 := C3) (Nf := Nf) (bk := bk) (cl := cl) (ck := ck) (cv := cv) (rm := rm) (gk := gk) (gn := gn) (ge := ge) (gv := gv) (gp := gp) (gq := gq) (yk := yk) (yv := yv) (b := i) (m := m) H hT hi (by
    intro y hy hm hk
    obtain ⟨s, hs, _, _, e⟩ := sc_rc1 h1 (fun s hs => (hU s hs).2) hy hm hk
    exact ⟨g s, (hU s hs).2, e⟩)
  refine ⟨mk2, wk2, lc2, wt2, c2, p2, q2, w2, b1, b2, ?_, ?_, K2⟩
  · intro s hs
    obtain ⟨h34, y, hy, hc, e⟩ := hs
    obtain ⟨e1, e2, e3⟩ := sc_RW_k h1 (fun s hs => (hU s hs).1) hy (h2 y hy hc) hc h34 e
    obtain ⟨j, hj, e4, e5⟩ := b3 y hy (h2 y hy hc) e2
    have hg := (hU s e1).2
    have : g s = j := sc_nIi (e3.symm.trans e4) (by omega) (by omega)
    exact this ▸ e5
  · intro j hj
    rcases b4 j hj with h | ⟨y, hy, hm, e1, e2⟩
    · exact Or.inl h
    · obtain ⟨s, hs, hc, e3, e4⟩ := sc_rc1 h1 (fun s hs => (hU s hs).2) hy hm e1
      have hg := (hU s hs).2
      have hq := b1.2.2.2.1 j hj
      exact Or.inr ⟨s, ⟨(hU s hs).1, y, hy, hc, e3⟩, sc_nIi (e2.symm.trans e4) (by omega) (by omega)⟩
theorem yw_frame {c p i d v : Nat} {q w : Nat → Nat} (H : sc_YS T mk wk lc wt c p q w) (hT : T ≤ 4096) (hi : i < d) (hd : d ≤ 32) (hN : N ≤ 32) (hU : ∀ s, U s → s < 34 ∧ g s < T) (hF : sc_FO g U N sz Na k2 k3 Nf C2 C3 fk fn fl fm gk gn ge gv gp gq i v) : ∃ mk' wk' lc' wt' c' p' q' w', sc_YS T mk' wk' lc' wt' c' p' q' w' ∧ sc_YX c p q w c' p' q' w' ∧ (∀ s, sc_FR fl fm i s → sc_in c' q' (g s)) ∧ (∀ j, j < c' → j < c ∨ ∃ s, sc_FR fl fm i s ∧ q' j = g s) ∧ ∀ (post : Int32 → SY → Prop) n, wY_endCheck_2 post n (nI (i + 1)) fu ll dl nc bs hK hV ca pk ct wt' lc' (nI d) ye yc rK rV Nk Na N2 C1 C2 C3 Nf bk cl ck cv mk' wk' rm gk gn ge gv gp gq yk yv 32768 32768 → wY_endCheck_2 post (n + 1) (nI i) fu ll dl nc bs hK hV ca pk ct wt lc (nI d) ye yc rK rV Nk Na N2 C1 C2 C3 Nf bk cl ck cv mk wk rm gk gn ge gv gp gq yk yv 32768 32768 := by
  obtain ⟨n, hn, f1, f2, hF⟩ := hF
  have ei : (nI i).toNatClampNeg = i := nI_clamp (by omega)
  have en : (nI n).toNatClampNeg = n := nI_clamp (by omega)
  have vi : vp_in (nI i) 32 := vp_in_nI (by omega) (by omega)
  have vn : vp_in (nI n) 32 := vp_in_nI (by omega) (by omega)
  rcases hF with ⟨hk, b, hb, _, e2, _, a1, a2⟩ | ⟨hk, _, cc, a1, a2⟩ | ⟨_, hk, b, e, hb, he, _, e2, _, e3, _, a1, a2⟩ | ⟨_, hk, x, b, hx, hb, ex, _, e2, _, a1, a2⟩
  · obtain ⟨mk2, wk2, lc2, wt2, c2, p2, q2, w2, b1, b2, b3, b4, K2⟩ := yw_frow (fu := fu) (ll := ll) (dl := dl) (nc := nc) (bs := bs) (hK := hK) (hV := hV) (ca := ca) (pk := pk) (ct := ct) (sp := nI d) (ye := ye) (yc := yc) (rK := rK) (rV := rV) (Nk := Nk) (Na := Na) (N2 := N2) (C1 := C1) (C2 := C2) (C3 := C3) (Nf := Nf) (bk := bk) (cl := cl) (ck := ck) (cv := cv) (rm := rm) (gk := gk) (gn := gn) (ge := ge) (gv := gv) (gp := gp) (gq := gq) (yk := yk) (yv := yv) (fl := fl) (fm := fm) (g := g) (U := U) H hT (by omega) hU a1 a2
    refine ⟨mk2, wk2, lc2, wt2, c2, p2, q2, w2, b1, b2, b3, b4, fun post n' h => br_f (nI_ge hi (by omega)) ⟨vi, nm_e ⟨vi, nm_r (e' := nI n) (by rw [ei]; exact f2) ?_⟩⟩⟩
    have eb : (C2 n).toNatClampNeg = b := by rw [e2]; exact nI_clamp (by omega)
    have vb : vp_in (C2 n) 32 := by rw [e2]; exact vp_in_nI (by omega) (by omega)
    have k1 : gk i = 1 ∨ gk i = 3 := hk.elim (fun z => Or.inl z.2) (fun z => Or.inr z.2)
    rw [ei]
    have k2 : ¬ gk i = 2 ∧ ¬ gk i = 4 ∧ ¬ gk i = 5 ∧ ¬ gk i = 6 := by rcases k1 with z | z <;> rw [z] <;> decide
    refine br_f k2.1 (br_f k2.2.1 ⟨vn, by rw [en]; exact vb, nm_r (e' := Nf b) (by rw [en, eb]) (br_f k2.2.2.1 (br_f k2.2.2.2 ⟨9, K2 post _ 9 (by omega) h⟩))⟩)
  · obtain ⟨mk2, wk2, lc2, wt2, c2, p2, q2, w2, b1, b2, b3, b4, K2⟩ := yw_mark (fu := fu) (ll := ll) (dl := dl) (nc := nc) (bs := bs) (hK := hK) (hV := hV) (ca := ca) (pk := pk) (ct := ct) (sp := nI d) (ye := ye) (yc := yc) (rK := rK) (rV := rV) (Nk := Nk) (Na := Na) (N2 := N2) (C1 := C1) (C2 := C2) (C3 := C3) (Nf := Nf) (bk := bk) (cl := cl) (ck := ck) (cv := cv) (rm := rm) (gk := gk) (gn := gn) (ge := ge) (gv := gv) (gp := gp) (gq := gq) (yk := yk) (yv := yv) (k := gp i) (v := gq i) H hT (by
      intro z
      rcases a2 with ⟨_, z2, _⟩ | ⟨_, _, s, hs, _, e⟩
      · rw [z] at z2; exact absurd z2 (by decide)
      · exact ⟨g s, (hU s hs).2, e⟩)
    refine ⟨mk2, wk2, lc2, wt2, c2, p2, q2, w2, b1, b2, ?_, ?_, fun post n' h => br_f (nI_ge hi (by omega)) ⟨vi, nm_e ⟨vi, nm_r (e' := nI n) (by rw [ei]; exact f2) ?_⟩⟩⟩
    · intro s hs
      obtain ⟨h34, y, hy, hc, e⟩ := hs
      rw [a1] at hc
      obtain ⟨rfl, rfl⟩ := sc_bi1 cc y hy hc
      rcases a2 with ⟨z, _⟩ | ⟨_, z2, t, ht, e1, e2⟩
      · cases z
      · have : s = t := sc_nIi (e.symm.trans e1) (by omega) (by have := (hU t ht).1; omega)
        subst this
        obtain ⟨j, hj, e3, e4⟩ := b3 z2
        have hg := (hU s ht).2
        have : g s = j := sc_nIi (e2.symm.trans e3) (by omega) (by omega)
        exact this ▸ e4
    · intro j hj
      rcases b4 j hj with h | ⟨z, e⟩
      · exact Or.inl h
      · rcases a2 with ⟨_, z2, _⟩ | ⟨z1, _, s, hs, e1, e2⟩
        · rw [z] at z2; exact absurd z2 (by decide)
        · have hg := (hU s hs).2
          have hq := b1.2.2.2.1 j hj
          exact Or.inr ⟨s, ⟨(hU s hs).1, 0, by omega, by rw [a1, sc_bi0]; exact z1, e1⟩, sc_nIi (e.symm.trans e2) (by omega) (by omega)⟩
    · rw [ei]
      rcases hk with z | z
      · refine br_t z.2 ⟨vi, vi, ?_⟩
        rw [ei]
        exact K2 _ (nm_r (nI_1 i) h)
      · refine br_f (by rw [z.2]; decide) (br_t z.2 ⟨vi, vi, ?_⟩)
        rw [ei]
        exact K2 _ (nm_r (nI_1 i) h)
  · obtain ⟨mk2, wk2, lc2, wt2, c2, p2, q2, w2, b1, b2, b3, b4, K2⟩ := yw_frow (fu := fu) (ll := ll) (dl := dl) (nc := nc) (bs := bs) (hK := hK) (hV := hV) (ca := ca) (pk := pk) (ct := ct) (sp := nI d) (ye := ye) (yc := yc) (rK := rK) (rV := rV) (Nk := Nk) (Na := Na) (N2 := N2) (C1 := C1) (C2 := C2) (C3 := C3) (Nf := Nf) (bk := bk) (cl := cl) (ck := ck) (cv := cv) (rm := rm) (gk := gk) (gn := gn) (ge := ge) (gv := gv) (gp := gp) (gq := gq) (yk := yk) (yv := yv) (fl := fl) (fm := fm) (g := g) (U := U) H hT (by omega) hU a1 a2
    refine ⟨mk2, wk2, lc2, wt2, c2, p2, q2, w2, b1, b2, b3, b4, fun post n' h => br_f (nI_ge hi (by omega)) ⟨vi, nm_e ⟨vi, nm_r (e' := nI n) (by rw [ei]; exact f2) ?_⟩⟩⟩
    have eb : (C2 n).toNatClampNeg = b := by rw [e2]; exact nI_clamp (by omega)
    have vb : vp_in (C2 n) 32 := by rw [e2]; exact vp_in_nI (by omega) (by omega)
    have ee : (C3 n).toNatClampNeg = e := by rw [e3]; exact nI_clamp (by omega)
    have ve : vp_in (C3 n) 32 := by rw [e3]; exact vp_in_nI (by omega) (by omega)
    rw [ei]
    refine br_f (by rw [hk]; decide) (br_f (by rw [hk]; decide) ⟨vn, by rw [en]; exact vb, nm_r (e' := Nf b) (by rw [en, eb]) (br_t hk ⟨vn, by rw [en]; exact ve, nm_r (e' := Nf b ||| Nf e) (by rw [en, ee]) (br_f (by rw [hk]; decide) ⟨9, K2 post _ 9 (by omega) h⟩)⟩)⟩)
  · obtain ⟨mk2, wk2, lc2, wt2, c2, p2, q2, w2, b1, b2, b3, b4, K2⟩ := yw_frow (fu := fu) (ll := ll) (dl := dl) (nc := nc) (bs := bs) (hK := hK) (hV := hV) (ca := ca) (pk := pk) (ct := ct) (sp := nI d) (ye := ye) (yc := yc) (rK := rK) (rV := rV) (Nk := Nk) (Na := Na) (N2 := N2) (C1 := C1) (C2 := C2) (C3 := C3) (Nf := Nf) (bk := bk) (cl := cl) (ck := ck) (cv := cv) (rm := rm) (gk := gk) (gn := gn) (ge := ge) (gv := gv) (gp := gp) (gq := gq) (yk := yk) (yv := yv) (fl := fl) (fm := fm) (g := g) (U := U) H hT (by omega) hU a1 a2
    refine ⟨mk2, wk2, lc2, wt2, c2, p2, q2, w2, b1, b2, b3, b4, fun post n' h => br_f (nI_ge hi (by omega)) ⟨vi, nm_e ⟨vi, nm_r (e' := nI n) (by rw [ei]; exact f2) ?_⟩⟩⟩
    have eb : (C2 n).toNatClampNeg = b := by rw [e2]; exact nI_clamp (by omega)
    have vb : vp_in (C2 n) 32 := by rw [e2]; exact vp_in_nI (by omega) (by omega)
    rw [ei]
    refine br_f (by rw [hk]; decide) (br_f (by rw [hk]; decide) ⟨vn, by rw [en]; exact vb, nm_r (e' := Nf b) (by rw [en, eb]) (br_f (by rw [hk]; decide) (br_t hk ⟨vn, nm_r (e' := Nf b &&& (((1 : Int32) <<< (nI x &&& 31)) ^^^ (-1))) (by rw [en, ex]) ⟨9, K2 post _ 9 (by omega) h⟩⟩))⟩)
end
end
section
/-! ===== the end of the reference's check ===== -/
theorem sc_HN_y {g : Nat → Nat} {U : Nat → Prop} {n0 T : Nat} {kd fv sl slv slc cl ck cv : Nat → Int32} {s y : Nat} (h : sc_HN g U n0 kd fv sl slv slc cl ck cv s) (hU : ∀ s, U s → s < 34 ∧ g s < T) (hy : y < 8) (e : ck (g s * 8 + y) = 2) : ∃ t, U t ∧ sc_EX slv slc s t ∧ cv (g s * 8 + y) = nI (g t) := by
  obtain ⟨l, h1, h2, h3, h4, h5, h6, h7⟩ := h
  cases hb : bt (fv l) y with
  | false => exact absurd e (h7 y hy hb)
  | true =>
    obtain ⟨t, ht, hc, e1, e2⟩ := sc_rc1 h5 (fun s hs => (hU s hs).2) hy hb e
    exact ⟨t, ht, ⟨(hU t ht).1, y, hy, hc, e1⟩, e2⟩
theorem sc_HN_x {g : Nat → Nat} {U : Nat → Prop} {n0 : Nat} {kd fv sl slv slc cl ck cv : Nat → Int32} {s t : Nat} (h : sc_HN g U n0 kd fv sl slv slc cl ck cv s) (hU : ∀ s, U s → s < 34) (e : sc_EX slv slc s t) : ∃ y, y < 8 ∧ ck (g s * 8 + y) = 2 ∧ cv (g s * 8 + y) = nI (g t) := by
  obtain ⟨l, h1, h2, h3, h4, h5, h6, h7⟩ := h
  obtain ⟨ht, y, hy, hc, ev⟩ := e
  obtain ⟨_, e2, e3⟩ := sc_RW_k h5 hU hy (h6 y hy hc) hc ht ev
  exact ⟨y, hy, e2, e3⟩
section
variable {fu ll dl nc bs hK hV ca pk ct wt lc sp ye yc rK rV : Int32} {Nk Na N2 C1 C2 C3 Nf bk cl ck cv mk wk rm gk gn ge gv gp gq yk yv : Nat → Int32}
variable {fk fn fl fm k2 k3 nk sl sw sm : Nat → Int32} {g sz : Nat → Nat} {U V : Nat → Prop} {N T : Nat}
theorem yw_endF {c p d : Nat} {q w : Nat → Nat} (H : sc_YS T mk wk lc wt c p q w) (hT : T ≤ 4096) (hd : d ≤ 32) (hN : N ≤ 32) (hU : ∀ s, U s → s < 34 ∧ g s < T) (hF : ∀ i, i < d → ∃ v, sc_FO g U N sz Na k2 k3 Nf C2 C3 fk fn fl fm gk gn ge gv gp gq i v) : ∃ mk' wk' lc' wt' c' p' q' w', sc_YS T mk' wk' lc' wt' c' p' q' w' ∧ sc_YX c p q w c' p' q' w' ∧ (∀ i s, i < d → sc_FR fl fm i s → sc_in c' q' (g s)) ∧ (∀ j, j < c' → j < c ∨ ∃ i s, i < d ∧ sc_FR fl fm i s ∧ q' j = g s) ∧ ∀ (post : Int32 → SY → Prop) n, d < n → (∀ m, wY_endCheck_2 post (m + 1) (nI d) fu ll dl nc bs hK hV ca pk ct wt' lc' (nI d) ye yc rK rV Nk Na N2 C1 C2 C3 Nf bk cl ck cv mk' wk' rm gk gn ge gv gp gq yk yv 32768 32768) → wY_endCheck_2 post n 0 fu ll dl nc bs hK hV ca pk ct wt lc (nI d) ye yc rK rV Nk Na N2 C1 C2 C3 Nf bk cl ck cv mk wk rm gk gn ge gv gp gq yk yv 32768 32768 := by
  have L := sc_loop (P := Int32 → SY → Prop) (S := (Nat → Int32) × (Nat → Int32) × Int32 × Int32) (fun o n i s => wY_endCheck_2 o n (nI i) fu ll dl nc bs hK hV ca pk ct s.2.2.2 s.2.2.1 (nI d) ye yc rK rV Nk Na N2 C1 C2 C3 Nf bk cl ck cv s.1 s.2.1 rm gk gn ge gv gp gq yk yv 32768 32768) (fun o s => ∀ m, wY_endCheck_2 o (m + 1) (nI d) fu ll dl nc bs hK hV ca pk ct s.2.2.2 s.2.2.1 (nI d) ye yc rK rV Nk Na N2 C1 C2 C3 Nf bk cl ck cv s.1 s.2.1 rm gk gn ge gv gp gq yk yv 32768 32768) (fun j s => ∃ c' p' q' w', sc_YS T s.1 s.2.1 s.2.2.1 s.2.2.2 c' p' q' w' ∧ sc_YX c p q w c' p' q' w' ∧ (∀ i t, i < j → sc_FR fl fm i t → sc_in c' q' (g t)) ∧ (∀ j, j < c' → j < c ∨ ∃ i s, i < d ∧ sc_FR fl fm i s ∧ q' j = g s)) d ?_ ?_ d 0 (mk, wk, lc, wt) (Nat.zero_add d) ⟨c, p, q, w, H, sc_YX_r, fun i t hi => absurd hi (Nat.not_lt_zero i), fun i hi => Or.inl hi⟩
  · obtain ⟨s', ⟨c', p', q', w', a1, a2, a3, a4⟩, KK⟩ := L
    exact ⟨_, _, _, _, c', p', q', w', a1, a2, a3, a4, fun post n hn h => KK post n hn h⟩
  · intro o n s _ hp
    exact hp n
  · intro i s hi hI
    obtain ⟨c', p', q', w', a1, a2, a3, a4⟩ := hI
    obtain ⟨v, hv⟩ := hF i hi
    obtain ⟨mk2, wk2, lc2, wt2, c2, p2, q2, w2, b1, b2, b3, b4, K2⟩ := yw_frame (fu := fu) (ll := ll) (dl := dl) (nc := nc) (bs := bs) (hK := hK) (hV := hV) (ca := ca) (pk := pk) (ct := ct) (ye := ye) (yc := yc) (rK := rK) (rV := rV) (Nk := Nk) (N2 := N2) (C1 := C1) (bk := bk) (cl := cl) (ck := ck) (cv := cv) (rm := rm) (yk := yk) (yv := yv) a1 hT hi hd hN hU hv
    refine ⟨(mk2, wk2, lc2, wt2), ⟨c2, p2, q2, w2, b1, sc_YX_t a2 b2, ?_, ?_⟩, fun o n h => K2 o n h⟩
    · intro j t hj ht
      by_cases e : j = i
      · subst e
        exact b3 t ht
      · exact sc_ex_in b2.1 (a3 j t (by omega) ht)
    · intro j hj
      rcases b4 j hj with h | ⟨s, hs, e⟩
      · rw [b2.1.2 j h]
        exact a4 j h
      · exact Or.inr ⟨i, s, hi, hs, e⟩
/-- drain and the two tests -/
theorem yw_endT {c d L P : Nat} {q w : Nat → Nat} (H : sc_YS T mk wk lc wt c c q w) (hT : T ≤ 4096) (hL : L < 2 ^ 31) (hp : P < 2 ^ 31) (hd : d ≤ 32) (hU : ∀ s, U s → s < 34 ∧ g s < T) (hVV : ∀ s, V s → U s) (hE : ∀ s t, V s → sc_EX sw sm s t → V t) (hH : ∀ s, V s → sc_HN g U N nk Nf sl sw sm cl ck cv s) (hq : ∀ i, i < c → ∃ s, V s ∧ q i = g s) (hw : ∀ i, i < c → sc_in c w (q i)) : ∃ mk' wk' lc' wt' c' q' w', sc_YS T mk' wk' lc' wt' c' 0 q' w' ∧ sc_ex c q c' q' ∧ (∀ i, i < c' → ∃ s, V s ∧ q' i = g s) ∧ (∀ s t, V s → sc_in c' q' (g s) → sc_EX sw sm s t → sc_in c' q' (g t)) ∧ ∀ (post : Int32 → SY → Prop) m, post (if c' ≤ L then -2 else 6) (fu, nI L, dl, nc, bs, hK, hV, ca, nI (if c' ≤ P then P else c'), ct, wt', lc', nI d, ye, yc, rK, rV, Nk, Na, N2, C1, C2, C3, Nf, bk, cl, ck, cv, mk', wk', rm, gk, gn, ge, gv, gp, gq, yk, yv, 32768, 32768) → wY_endCheck_2 post (m + 1) (nI d) fu (nI L) dl nc bs hK hV ca (nI P) ct wt lc (nI d) ye yc rK rV Nk Na N2 C1 C2 C3 Nf bk cl ck cv mk wk rm gk gn ge gv gp gq yk yv 32768 32768 := by
  obtain ⟨mk2, wk2, lc2, wt2, c2, q2, w2, b1, b2, b3, b4, K2⟩ := yw_drain (R := fun j => ∃ s, V s ∧ j = g s) (fu := fu) (ll := nI L) (dl := dl) (nc := nc) (bs := bs) (hK := hK) (hV := hV) (ca := ca) (pk := nI P) (ct := ct) (sp := nI d) (ye := ye) (yc := yc) (rK := rK) (rV := rV) (Nk := Nk) (Na := Na) (N2 := N2) (C1 := C1) (C2 := C2) (C3 := C3) (Nf := Nf) (bk := bk) (cl := cl) (ck := ck) (cv := cv) (rm := rm) (gk := gk) (gn := gn) (ge := ge) (gv := gv) (gp := gp) (gq := gq) (yk := yk) (yv := yv) hT (by
    intro j hj
    obtain ⟨s, hs, rfl⟩ := hj
    exact (hU s (hVV s hs)).2) (by
    intro j hj y hy e
    obtain ⟨s, hs, rfl⟩ := hj
    obtain ⟨t, ht, ex, e2⟩ := sc_HN_y (hH s hs) hU hy e
    exact ⟨g t, ⟨t, hE s t hs ex, rfl⟩, e2⟩) H hq hw
  have hc := sc_YS_b b1
  have hlc := b1.1
  refine ⟨mk2, wk2, lc2, wt2, c2, q2, w2, b1, b2, b3, ?_, fun post m h => ?_⟩
  · intro s t hs hi ex
    obtain ⟨y, hy, e1, e2⟩ := sc_HN_x (hH s hs) (fun s hs => (hU s hs).1) ex
    exact b4 (g s) (g t) hi ⟨(hU t (hVV t (hE s t hs ex))).2, y, hy, e1, e2⟩
  · refine br_t (nI_le (a := d) (b := d) (by omega) (by omega)) (K2 _ ?_)
    refine pk_le c2 P (fun h1 => pk_le c2 L (fun h2 => ?_) (fun h2 => ?_) hlc) (fun h1 => pk_le c2 L (fun h2 => ?_) (fun h2 => ?_) hlc) hlc
    · rw [if_pos h1, if_pos h2] at h; exact h
    · rw [if_pos h1, if_neg (show ¬ c2 ≤ L by omega)] at h; exact h
    · rw [if_neg (show ¬ c2 ≤ P by omega), if_pos h2, ← hlc] at h; exact h
    · rw [if_neg (show ¬ c2 ≤ P by omega), if_neg (show ¬ c2 ≤ L by omega), ← hlc] at h; exact h
/-- the whole end of the check: what is marked behind it is what the component reaches -/
theorem yw_end {c d L P : Nat} {q w : Nat → Nat} {SR : Nat → Prop} (H : sc_YS T mk wk lc wt c c q w) (hT : T ≤ 4096) (hL : L < 2 ^ 31) (hp : P < 2 ^ 31) (hd : d ≤ 32) (hN : N ≤ 32) (hU : ∀ s, U s → s < 34 ∧ g s < T) (hF : ∀ i, i < d → ∃ v, sc_FO g U N sz Na k2 k3 Nf C2 C3 fk fn fl fm gk gn ge gv gp gq i v) (hH : ∀ s, U s → sc_HN g U N nk Nf sl sw sm cl ck cv s) (hS : ∀ s, SR s → U s) (hq : ∀ i, i < c → ∃ s, SR s ∧ q i = g s) (hs : ∀ s, SR s → sc_in c q (g s)) (hw : ∀ i, i < c → sc_in c w (q i)) : ∃ mk' wk' lc' wt' c' q' w', sc_YS T mk' wk' lc' wt' c' 0 q' w' ∧ (∀ j, sc_in c' q' j ↔ ∃ s, sc_rc (sc_RX SR fl fm d) (sc_EX sw sm) s ∧ j = g s) ∧ ∀ (post : Int32 → SY → Prop), post (if c' ≤ L then -2 else 6) (fu, nI L, dl, nc, bs, hK, hV, ca, nI (if c' ≤ P then P else c'), ct, wt', lc', nI d, ye, yc, rK, rV, Nk, Na, N2, C1, C2, C3, Nf, bk, cl, ck, cv, mk', wk', rm, gk, gn, ge, gv, gp, gq, yk, yv, 32768, 32768) → wpY_endCheck post (fu, nI L, dl, nc, bs, hK, hV, ca, nI P, ct, wt, lc, nI d, ye, yc, rK, rV, Nk, Na, N2, C1, C2, C3, Nf, bk, cl, ck, cv, mk, wk, rm, gk, gn, ge, gv, gp, gq, yk, yv, 32768, 32768) := by
  have hVU : ∀ s, sc_rc (sc_RX SR fl fm d) (sc_EX sw sm) s → U s := by
    refine sc_iso1 ?_ ?_
    · intro s h
      rcases h with h | ⟨i, hi, h⟩
      · exact hS s h
      · obtain ⟨v, hv⟩ := hF i hi
        exact sc_FO_k hv (fun s hs => (hU s hs).1) s h
    · intro s t h e
      exact sc_HN_k (hH s h) (fun s hs => (hU s hs).1) e
  obtain ⟨mk1, wk1, lc1, wt1, c1, p1, q1, w1, a1, a2, a3, a4, K1⟩ := yw_endF (fu := fu) (ll := nI L) (dl := dl) (nc := nc) (bs := bs) (hK := hK) (hV := hV) (ca := ca) (pk := nI P) (ct := ct) (ye := ye) (yc := yc) (rK := rK) (rV := rV) (Nk := Nk) (N2 := N2) (C1 := C1) (bk := bk) (cl := cl) (ck := ck) (cv := cv) (rm := rm) (yk := yk) (yv := yv) H hT hd hN hU hF
  have hp1 : p1 = c1 := by have := a2.2.2.1; omega
  subst hp1
  obtain ⟨mk2, wk2, lc2, wt2, c2, q2, w2, b1, b2, b3, b4, K2⟩ := yw_endT (V := sc_rc (sc_RX SR fl fm d) (sc_EX sw sm)) (d := d) (L := L) (P := P) (fu := fu) (dl := dl) (nc := nc) (bs := bs) (hK := hK) (hV := hV) (ca := ca) (ct := ct) (ye := ye) (yc := yc) (rK := rK) (rV := rV) (Nk := Nk) (Na := Na) (N2 := N2) (C1 := C1) (C2 := C2) (C3 := C3) (bk := bk) (rm := rm) (gk := gk) (gn := gn) (ge := ge) (gv := gv) (gp := gp) (gq := gq) (yk := yk) (yv := yv) a1 hT hL hp hd hU hVU (fun s t h e => sc_rc_e h e) (fun s h => hH s (hVU s h)) (by
    intro j hj
    rcases a4 j hj with h | ⟨i, s, hi, h, e⟩
    · obtain ⟨s, h1, h2⟩ := hq j h
      exact ⟨s, sc_rc_r (Or.inl h1), by rw [a2.1.2 j h]; exact h2⟩
    · exact ⟨s, sc_rc_r (Or.inr ⟨i, hi, h⟩), e⟩) (by
    intro j hj
    rcases a2.2.2.2 j hj with h | h
    · rw [a2.1.2 j h]
      exact sc_ex_in a2.2.1 (hw j h)
    · exact h)
  refine ⟨mk2, wk2, lc2, wt2, c2, q2, w2, b1, ?_, fun post h => ⟨d + 1, K1 post (d + 1) (by omega) (fun m => K2 post m h)⟩⟩
  intro j
  constructor
  · intro h
    obtain ⟨i, hi, e⟩ := h
    obtain ⟨s, h1, h2⟩ := b3 i hi
    exact ⟨s, h1, e.symm.trans h2⟩
  · intro h
    obtain ⟨s, h1, rfl⟩ := h
    refine (h1 (fun s => sc_rc (sc_RX SR fl fm d) (sc_EX sw sm) s ∧ sc_in c2 q2 (g s)) ?_ ?_).2
    · intro a ha
      refine ⟨sc_rc_r ha, ?_⟩
      rcases ha with ha | ⟨i, hi, ha⟩
      · exact sc_ex_in b2 (sc_ex_in a2.1 (hs a ha))
      · exact sc_ex_in b2 (a3 i a hi ha)
    · intro a b ha e
      exact ⟨sc_rc_e ha.1 e, b4 a b ha.1 ha.2 e⟩
end
/-- both sides count the same -/
theorem sc_same {c c' : Nat} {q q' : Nat → Nat} {V : Nat → Prop} {g : Nat → Nat} (i1 : ∀ i j, i < c → j < c → q i = q j → i = j) (i2 : ∀ i j, i < c' → j < c' → q' i = q' j → i = j) (h1 : ∀ s, sc_in c q s ↔ V s) (h2 : ∀ j, sc_in c' q' j ↔ ∃ s, V s ∧ j = g s) (hg : ∀ s t, V s → V t → g s = g t → s = t) : c = c' := by
  apply Nat.le_antisymm
  · refine sc_pig (T := fun i j => q' j = g (q i)) ?_ ?_
    · intro i hi
      obtain ⟨j, hj, e⟩ := (h2 (g (q i))).mpr ⟨q i, (h1 _).mp ⟨i, hi, rfl⟩, rfl⟩
      exact ⟨j, hj, e⟩
    · intro i k j hi hk a b
      exact i1 i k hi hk (hg _ _ ((h1 _).mp ⟨i, hi, rfl⟩) ((h1 _).mp ⟨k, hk, rfl⟩) (a.symm.trans b))
  · refine sc_pig (T := fun j i => q' j = g (q i)) ?_ ?_
    · intro j hj
      obtain ⟨s, hs, e⟩ := (h2 (q' j)).mp ⟨j, hj, rfl⟩
      obtain ⟨i, hi, e2⟩ := (h1 s).mpr hs
      exact ⟨i, hi, by rw [e2]; exact e⟩
    · intro j k i hj hk a b
      exact i2 j k hj hk (a.trans b.symm)
end
section
/-! ===== the relation while the machine runs ===== -/
def sc_sum (f : Nat → Nat) : Nat → Nat
  | 0 => 0
  | n + 1 => sc_sum f n + f n
/-- what both sides hold in any state: limits, program, stack, counts -/
def sc_BA (F L D N S A P : Nat) (sz : Nat → Nat) (nk nl n2 k1 k2 k3 nf sk Nk N2 C1 C2 C3 : Nat → Int32) : Prop :=
  (1 ≤ F ∧ F ≤ 100 ∧ L ≤ 32 ∧ D ≤ 32 ∧ N ≤ 32 ∧ S ≤ N ∧ A ≤ F ∧ P ≤ 34) ∧ (∀ i, i < N → sc_nd sz nk nl n2 k1 k2 k3 nf Nk N2 C1 C2 C3 i) ∧ (∀ j, j < S → ∃ i, i < N ∧ sk j = nI i) ∧ sc_sum (fun j => sz (sk j).toNatClampNeg) S = N
/-- closures and frames -/
def sc_HF (g : Nat → Nat) (U : Nat → Prop) (N : Nat) (sz : Nat → Nat) (T d Q : Nat) (nk nl k2 k3 nf C2 C3 fk fn fl fm iu sl sw sm cl ck cv gk gn ge gv gp gq : Nat → Int32) : Prop := sc_HB g U iu T ∧ (∀ s, U s → sc_HN g U N nk nf sl sw sm cl ck cv s) ∧ sc_FS (sc_FO g U N sz nl k2 k3 nf C2 C3 fk fn fl fm gk gn ge gv gp gq) d Q
/-- what the machine is about to do -/
def sc_SE (N : Nat) (sz g : Nat → Nat) (U : Nat → Prop) (q : Nat) (ev cu ec va vc yc rK rV : Int32) (nf en yk yv : Nat → Int32) : Prop := (ev = 1 ∧ ∃ n, n < N ∧ cu = nI n ∧ yc = nI n ∧ q = 3 * sz n ∧ sc_RW g U (nf n) en ec yk yv) ∨ (ev = 0 ∧ q = 0 ∧ ∃ c, vc = sc_bi c ∧ sc_VR g U va c rK rV)
def sc_mr (M : Nat) (fu ll dl nc ss ca pk ev cu ec va vc dp ct yc rK rV : Int32) (nk nl n2 k1 k2 k3 nf sk en fk fn fl fm iu sl sw sm Nk N2 C1 C2 C3 cl ck cv gk gn ge gv gp gq yk yv : Nat → Int32) : Prop := ∃ (F L D N S A P : Nat) (sz g : Nat → Nat) (U : Nat → Prop) (T d q Q : Nat), (fu = nI F ∧ ll = nI L ∧ dl = nI D ∧ nc = nI N ∧ ss = nI S ∧ ca = nI A ∧ pk = nI P ∧ dp = nI d ∧ ct = nI T) ∧ sc_BA F L D N S A P sz nk nl n2 k1 k2 k3 nf sk Nk N2 C1 C2 C3 ∧ (d ≤ 32 ∧ M = q + Q + 93 * (F - A) ∧ 3 * T + M ≤ 9600) ∧ sc_HF g U N sz T d Q nk nl k2 k3 nf C2 C3 fk fn fl fm iu sl sw sm cl ck cv gk gn ge gv gp gq ∧ sc_IU 32 iu ∧ sc_SE N sz g U q ev cu ec va vc yc rK rV nf en yk yv
/-- the machine runs, with M work ahead at most -/
def sc_MR (M : Nat) (u : SX) (v : SY) : Prop := ∃ (fu ll dl nc ss hk hv ca pk st ev cu ec va vc dp rc hK hV ct wt lc yc rK rV : Int32) (nk nl n2 k1 k2 k3 nf sk en fk fn fl fm iu sl sw sm rs Nk N2 C1 C2 C3 cl ck cv mk wk rm gk gn ge gv gp gq yk yv : Nat → Int32), u = (fu, ll, dl, nc, ss, 0, 0, ca, pk, -2, ev, cu, ec, va, vc, dp, rc, nk, nl, n2, k1, k2, k3, nf, sk, en, fk, fn, fl, fm, iu, sl, sw, sm, rs) ∧ v = (fu, ll, dl, nc, ss, 0, 0, ca, pk, ct, wt, lc, dp, ev, yc, rK, rV, Nk, nl, N2, C1, C2, C3, nf, sk, cl, ck, cv, mk, wk, rm, gk, gn, ge, gv, gp, gq, yk, yv, 32768, 32768) ∧ sc_mr M fu ll dl nc ss ca pk ev cu ec va vc dp ct yc rK rV nk nl n2 k1 k2 k3 nf sk en fk fn fl fm iu sl sw sm Nk N2 C1 C2 C3 cl ck cv gk gn ge gv gp gq yk yv
/-- it has ended with the error r -/
def sc_ER (r : Int32) (u : SX) (v : SY) : Prop := ∃ (fu ll dl nc ss hk hv ca pk st ev cu ec va vc dp rc hK hV ct wt lc yc rK rV : Int32) (nk nl n2 k1 k2 k3 nf sk en fk fn fl fm iu sl sw sm rs Nk N2 C1 C2 C3 cl ck cv mk wk rm gk gn ge gv gp gq yk yv : Nat → Int32) (sp ye : Int32), u = (fu, ll, dl, nc, ss, 0, 0, ca, pk, r, ev, cu, ec, va, vc, dp, rc, nk, nl, n2, k1, k2, k3, nf, sk, en, fk, fn, fl, fm, iu, sl, sw, sm, rs) ∧ v = (fu, ll, dl, nc, ss, 0, 0, ca, pk, ct, wt, lc, sp, ye, yc, rK, rV, Nk, nl, N2, C1, C2, C3, nf, sk, cl, ck, cv, mk, wk, rm, gk, gn, ge, gv, gp, gq, yk, yv, 32768, 32768) ∧ ∃ F L D N S A P sz, (fu = nI F ∧ ll = nI L ∧ dl = nI D ∧ nc = nI N ∧ ss = nI S ∧ ca = nI A ∧ pk = nI P) ∧ sc_BA F L D N S A P sz nk nl n2 k1 k2 k3 nf sk Nk N2 C1 C2 C3
/-- it has ended well: the reference holds its result already -/
def sc_OK (u : SX) (v : SY) : Prop := ∃ (fu ll dl nc ss hk hv ca pk st ev cu ec va vc dp rc hK hV ct wt lc yc rK rV : Int32) (nk nl n2 k1 k2 k3 nf sk en fk fn fl fm iu sl sw sm rs Nk N2 C1 C2 C3 cl ck cv mk wk rm gk gn ge gv gp gq yk yv : Nat → Int32), u = (fu, ll, dl, nc, ss, 0, 0, ca, pk, 0, ev, cu, ec, va, vc, dp, rc, nk, nl, n2, k1, k2, k3, nf, sk, en, fk, fn, fl, fm, iu, sl, sw, sm, rs) ∧ v = (fu, ll, dl, nc, ss, rK, rV, ca, pk, ct, wt, lc, dp, ev, yc, rK, rV, Nk, nl, N2, C1, C2, C3, nf, sk, cl, ck, cv, mk, wk, rm, gk, gn, ge, gv, gp, gq, yk, yv, 32768, 32768) ∧ ∃ F L D N S A P sz g U T c, (fu = nI F ∧ ll = nI L ∧ dl = nI D ∧ nc = nI N ∧ ss = nI S ∧ ca = nI A ∧ pk = nI P ∧ ct = nI T) ∧ sc_BA F L D N S A P sz nk nl n2 k1 k2 k3 nf sk Nk N2 C1 C2 C3 ∧ T ≤ 4096 ∧ sc_HB g U iu T ∧ (∀ s, U s → sc_HN g U N nk nf sl sw sm cl ck cv s) ∧ sc_IU 32 iu ∧ vc = sc_bi c ∧ sc_VR g U va c rK rV
def sc_SR (M : Nat) (r : Int32) (u : SX) (v : SY) : Prop := (r = -2 ∧ ∃ M', M' < M ∧ sc_MR M' u v) ∨ (¬ r = -2 ∧ ¬ r = 0 ∧ sc_ER r u v) ∨ (r = 0 ∧ sc_OK u v)
end
section
/-! ===== the component's walks: frames, calls ===== -/
section
variable {fu ll dl nc ss hk hv ca pk st ev cu ec va vc dp rc : Int32} {nk nl n2 k1 k2 k3 nf sk en fk fn fl fm iu sl sw sm rs : Nat → Int32}
theorem xw_first {post : SX → Prop} {n d D : Nat} {f m : Int32} (hn : n < 32) (hd : d < D) (hD : D ≤ 32) (h : post (fu, ll, nI D, nc, ss, hk, hv, ca, pk, st, 1, k1 n, ec, va, vc, nI (d + 1), rc, nk, nl, n2, k1, k2, k3, nf, sk, en, upd fk d f, upd fn d (nI n), sc_wr fl (d * 8) en 8, upd fm d (ec &&& m), iu, sl, sw, sm, rs)) : wpX_evalFirstChild post (fu, ll, nI D, nc, ss, hk, hv, ca, pk, st, ev, cu, ec, va, vc, nI d, rc, nk, nl, n2, k1, k2, k3, nf, sk, en, fk, fn, fl, fm, iu, sl, sw, sm, rs) (nI n) f m := by
  unfold wpX_evalFirstChild
  refine br_t (nI_lt hd (by omega)) ⟨vp_in_nI (by omega) (by omega), nm_r (e' := upd fk d f) (by rw [nI_clamp (by omega)]) ⟨vp_in_nI (by omega) (by omega), nm_r (e' := upd fn d (nI n)) (by rw [nI_clamp (by omega)]) ?_⟩⟩
  rw [sc_m8]
  refine xw_saveF (by omega) ⟨vp_in_nI (by omega) (by omega), nm_r (e' := upd fm d (ec &&& m)) (by rw [nI_clamp (by omega)]) (nm_r (nI_1 d) ⟨vp_in_nI hn (by omega), ?_⟩)⟩
  rw [nI_clamp (n := n) (by omega)]
  exact h
theorem xw_deep {post : SX → Prop} {d D : Nat} {n f m : Int32} (hd : D ≤ d) (hD : d < 2 ^ 31) (h : post (fu, ll, nI D, nc, ss, hk, hv, ca, pk, 5, ev, cu, ec, va, vc, nI d, rc, nk, nl, n2, k1, k2, k3, nf, sk, en, fk, fn, fl, fm, iu, sl, sw, sm, rs)) : wpX_evalFirstChild post (fu, ll, nI D, nc, ss, hk, hv, ca, pk, st, ev, cu, ec, va, vc, nI d, rc, nk, nl, n2, k1, k2, k3, nf, sk, en, fk, fn, fl, fm, iu, sl, sw, sm, rs) n f m := by
  unfold wpX_evalFirstChild
  exact br_f (nI_nlt hd hD) h
theorem xw_second {post : SX → Prop} {n d : Nat} {f : Int32} {c : Bool} (hn : n < 32) (hd : d < 32) (h : post (fu, ll, dl, nc, ss, hk, hv, ca, pk, st, 1, k2 n, fm d, va, sc_bi c, nI (d + 1), rc, nk, nl, n2, k1, k2, k3, nf, sk, sc_wr en 0 (fun y => fl (d * 8 + y)) 8, upd fk d f, fn, upd fl (d * 8) va, upd fm d (sc_bi c), iu, sl, sw, sm, rs)) : wpX_evalSecondChild post (fu, ll, dl, nc, ss, hk, hv, ca, pk, st, ev, cu, ec, va, sc_bi c, nI d, rc, nk, nl, n2, k1, k2, k3, nf, sk, en, fk, fn, fl, fm, iu, sl, sw, sm, rs) (nI n) f := by
  unfold wpX_evalSecondChild
  refine nm_r (sc_m8 d) ⟨vp_in_nI hd (by omega), ?_⟩
  rw [nI_clamp (n := d) (by omega)]
  refine xw_loadF (by omega) ⟨vp_in_nI hd (by omega), nm_r (e' := upd fk d f) (by rw [nI_clamp (by omega)]) ⟨vp_in_nI (by omega) (by omega), nm_r (e' := upd fl (d * 8) va) (by rw [nI_clamp (by omega)]) ?_⟩⟩
  cases c
  · refine br_t rfl ⟨vp_in_nI hd (by omega), nm_r (e' := upd fm d 0) (by rw [nI_clamp (by omega)]) (nm_r (nI_1 d) ⟨vp_in_nI hn (by omega), ?_⟩)⟩
    rw [nI_clamp (n := n) (by omega)]
    exact h
  · refine br_f (by decide) ⟨vp_in_nI hd (by omega), nm_r (e' := upd fm d 1) (by rw [nI_clamp (by omega)]) (nm_r (nI_1 d) ⟨vp_in_nI hn (by omega), ?_⟩)⟩
    rw [nI_clamp (n := n) (by omega)]
    exact h
theorem xw_call {post : SX → Prop} {s l x A F : Nat} {c : Bool} (hs : s < 34) (hl : l < 32) (hx : x < 8) (el : sl s = nI l) (ex : nl l = nI x) (hA : A < F) (hF : F < 2 ^ 31) (h : post (nI F, ll, dl, nc, ss, hk, hv, nI (A + 1), pk, st, 1, k1 l, sc_bm (sm s) x c, va, sc_bi c, dp, rc, nk, nl, n2, k1, k2, k3, nf, sk, upd (sc_wr en 0 (fun y => sw (s * 8 + y)) 8) x va, fk, fn, fl, fm, iu, sl, sw, sm, rs)) : wpX_callStep post (nI F, ll, dl, nc, ss, hk, hv, nI A, pk, st, ev, cu, ec, va, sc_bi c, dp, rc, nk, nl, n2, k1, k2, k3, nf, sk, en, fk, fn, fl, fm, iu, sl, sw, sm, rs) (nI s) := by
  unfold wpX_callStep
  refine br_t (nI_lt hA hF) (nm_r (nI_1 A) ⟨vp_in_nI hs (by omega), nm_r (e' := nI l) (by rw [nI_clamp (by omega)]; exact el) ⟨vp_in_nI hs (by omega), ?_⟩⟩)
  rw [sc_m8, nI_clamp (n := s) (by omega)]
  refine xw_loadS (by omega) ⟨vp_in_nI hl (by omega), ?_⟩
  rw [nI_clamp (n := l) (by omega), ex]
  refine xw_bind hx va c ⟨vp_in_nI hl (by omega), ?_⟩
  exact h
theorem xw_nofuel {post : SX → Prop} {F : Nat} {s : Int32} (hF : F < 2 ^ 31) (h : post (nI F, ll, dl, nc, ss, hk, hv, nI F, pk, 4, ev, cu, ec, va, vc, dp, rc, nk, nl, n2, k1, k2, k3, nf, sk, en, fk, fn, fl, fm, iu, sl, sw, sm, rs)) : wpX_callStep post (nI F, ll, dl, nc, ss, hk, hv, nI F, pk, st, ev, cu, ec, va, vc, dp, rc, nk, nl, n2, k1, k2, k3, nf, sk, en, fk, fn, fl, fm, iu, sl, sw, sm, rs) s := by
  unfold wpX_callStep
  exact br_f (nI_nlt (Nat.le_refl F) hF) h
end
end
section
/-! ===== the steps of EVAL, both sides: constants, variables, frames pushed ===== -/
theorem sc_FO_c {g : Nat → Nat} {U : Nat → Prop} {n0 : Nat} {sz : Nat → Nat} {lb c2 c3 fv c2' c3' fk fn fvl fc gk gn gek gev gvk gvv fk' fn' fvl' fc' gk' gn' gek' gev' gvk' gvv' : Nat → Int32} {i w : Nat} (h : sc_FO g U n0 sz lb c2 c3 fv c2' c3' fk fn fvl fc gk gn gek gev gvk gvv i w) (e1 : fk' i = fk i) (e2 : fn' i = fn i) (e3 : ∀ y, y < 8 → fvl' (i * 8 + y) = fvl (i * 8 + y)) (e4 : fc' i = fc i) (e5 : gk' i = gk i) (e6 : gn' i = gn i) (e7 : ∀ y, y < 8 → gek' (i * 8 + y) = gek (i * 8 + y)) (e8 : ∀ y, y < 8 → gev' (i * 8 + y) = gev (i * 8 + y)) (e9 : gvk' i = gvk i) (e10 : gvv' i = gvv i) : sc_FO g U n0 sz lb c2 c3 fv c2' c3' fk' fn' fvl' fc' gk' gn' gek' gev' gvk' gvv' i w := by
  obtain ⟨n, h1, h2, h3, h4⟩ := h
  unfold sc_FO
  rw [e1, e2, e4, e5, e6, e9, e10]
  refine ⟨n, h1, h2, h3, ?_⟩
  rcases h4 with ⟨k, b, a1, a2, a3, a4, a5, a6⟩ | ⟨k, a1, c, a2, a3⟩ | ⟨x1, x2, b, e, a1, a2, a3, a4, a5, a6, a7, a8, a9⟩ | ⟨x1, x2, x, b, a1, a2, a3, a4, a5, a6, a7, a8⟩
  · exact Or.inl ⟨k, b, a1, a2, a3, a4, sc_RW_c a5 e3 e7 e8, a6⟩
  · have e30 := e3 0 (by omega)
    rw [Nat.add_zero] at e30
    exact Or.inr (Or.inl ⟨k, a1, c, a2, by rw [e30]; exact a3⟩)
  · exact Or.inr (Or.inr (Or.inl ⟨x1, x2, b, e, a1, a2, a3, a4, a5, a6, a7, sc_RW_c a8 e3 e7 e8, a9⟩))
  · exact Or.inr (Or.inr (Or.inr ⟨x1, x2, x, b, a1, a2, a3, a4, a5, a6, sc_RW_c a7 e3 e7 e8, a8⟩))
/-- a frame's row, just saved -/
theorem sc_row1 {g : Nat → Nat} {U : Nat → Prop} {d : Nat} {mn m ec : Int32} {en yk yv fl ge gv : Nat → Int32} (h : sc_RW g U mn en ec yk yv) (hm : ∀ y, y < 8 → bt m y = true → bt mn y = true) : sc_RW g U m (fun y => sc_wr fl (d * 8) en 8 (d * 8 + y)) (ec &&& m) (fun y => sc_wr ge (d * 8) yk 8 (d * 8 + y)) (fun y => sc_wr gv (d * 8) yv 8 (d * 8 + y)) := by
  intro y hy hb
  dsimp only
  rw [sc_wr_i hy, sc_wr_i hy, sc_wr_i hy, b_and, hb, Bool.and_true]
  exact h y hy (hm y hy hb)
theorem sc_row2 {m ec : Int32} : sc_CM m (ec &&& m) := by
  intro y _ hc
  rw [b_and] at hc
  exact (Bool.and_eq_true_iff.mp hc).2
section
variable {fu ll dl nc ss hk hv ca pk st ev cu ec va vc dp rc hK hV ct wt lc yc rK rV : Int32} {nk nl n2 k1 k2 k3 nf sk en fk fn fl fm iu sl sw sm rs Nk N2 C1 C2 C3 cl ck cv mk wk rm gk gn ge gv gp gq yk yv : Nat → Int32}
variable {F L D N S A P T d n q Q M : Nat} {sz g : Nat → Nat} {U : Nat → Prop}
theorem sc_MRk (hB : sc_BA F L D N S A P sz nk nl n2 k1 k2 k3 nf sk Nk N2 C1 C2 C3) (hd : d ≤ 32) (hM : M = q + Q + 93 * (F - A)) (hT : 3 * T + M ≤ 9600) (hH : sc_HF g U N sz T d Q nk nl k2 k3 nf C2 C3 fk fn fl fm iu sl sw sm cl ck cv gk gn ge gv gp gq) (hI : sc_IU 32 iu) (hS : sc_SE N sz g U q ev cu ec va vc yc rK rV nf en yk yv) : sc_MR M (nI F, nI L, nI D, nI N, nI S, 0, 0, nI A, nI P, -2, ev, cu, ec, va, vc, nI d, rc, nk, nl, n2, k1, k2, k3, nf, sk, en, fk, fn, fl, fm, iu, sl, sw, sm, rs) (nI F, nI L, nI D, nI N, nI S, 0, 0, nI A, nI P, nI T, wt, lc, nI d, ev, yc, rK, rV, Nk, nl, N2, C1, C2, C3, nf, sk, cl, ck, cv, mk, wk, rm, gk, gn, ge, gv, gp, gq, yk, yv, 32768, 32768) := by
  unfold sc_MR
  refine ⟨_, _, _, _, _, 0, 0, _, _, 0, _, _, _, _, _, _, _, 0, 0, _, _, _, _, _, _, _, _, _, _, _, _, _, _, _, _, _, _, _, _, _, _, _, _, _, _, _, _, _, _, _, _, _, _, _, _, _, _, _, _, _, _, _, rfl, rfl, ?_⟩
  unfold sc_mr
  exact ⟨F, L, D, N, S, A, P, sz, g, U, T, d, q, Q, ⟨rfl, rfl, rfl, rfl, rfl, rfl, rfl, rfl, rfl⟩, hB, ⟨hd, hM, hT⟩, hH, hI, hS⟩
theorem sc_ERk {r sp ye : Int32} (hB : sc_BA F L D N S A P sz nk nl n2 k1 k2 k3 nf sk Nk N2 C1 C2 C3) : sc_ER r (nI F, nI L, nI D, nI N, nI S, 0, 0, nI A, nI P, r, ev, cu, ec, va, vc, dp, rc, nk, nl, n2, k1, k2, k3, nf, sk, en, fk, fn, fl, fm, iu, sl, sw, sm, rs) (nI F, nI L, nI D, nI N, nI S, 0, 0, nI A, nI P, ct, wt, lc, sp, ye, yc, rK, rV, Nk, nl, N2, C1, C2, C3, nf, sk, cl, ck, cv, mk, wk, rm, gk, gn, ge, gv, gp, gq, yk, yv, 32768, 32768) := by
  unfold sc_ER
  exact ⟨_, _, _, _, _, 0, 0, _, _, 0, _, _, _, _, _, _, _, 0, 0, _, _, _, _, _, _, _, _, _, _, _, _, _, _, _, _, _, _, _, _, _, _, _, _, _, _, _, _, _, _, _, _, _, _, _, _, _, _, _, _, _, _, _, _, _, rfl, rfl, F, L, D, N, S, A, P, sz, ⟨rfl, rfl, rfl, rfl, rfl, rfl, rfl⟩, hB⟩
theorem se_num (hB : sc_BA F L D N S A P sz nk nl n2 k1 k2 k3 nf sk Nk N2 C1 C2 C3) (hd : d ≤ 32) (hM : M = 3 * sz n + Q + 93 * (F - A)) (hT : 3 * T + M ≤ 9600) (hH : sc_HF g U N sz T d Q nk nl k2 k3 nf C2 C3 fk fn fl fm iu sl sw sm cl ck cv gk gn ge gv gp gq) (hI : sc_IU 32 iu) (hn : n < N) (x1 : nk n = 0) (x2 : Nk n = 1) : ∃ u1 v1 r, (∀ post : SX → Prop, post u1 → wpX_evalStep post (nI F, nI L, nI D, nI N, nI S, 0, 0, nI A, nI P, -2, 1, nI n, ec, va, vc, nI d, rc, nk, nl, n2, k1, k2, k3, nf, sk, en, fk, fn, fl, fm, iu, sl, sw, sm, rs)) ∧ (∀ post : Int32 → SY → Prop, post r v1 → wpY_evalStep post (nI F, nI L, nI D, nI N, nI S, 0, 0, nI A, nI P, nI T, wt, lc, nI d, 1, nI n, rK, rV, Nk, nl, N2, C1, C2, C3, nf, sk, cl, ck, cv, mk, wk, rm, gk, gn, ge, gv, gp, gq, yk, yv, 32768, 32768)) ∧ sc_SR M r u1 v1 := by
  have hN := hB.1.2.2.2.2.1
  have hs := (hB.2.1 n hn).1.1
  refine ⟨(nI F, nI L, nI D, nI N, nI S, 0, 0, nI A, nI P, -2, 0, nI n, ec, nl n, 0, nI d, rc, nk, nl, n2, k1, k2, k3, nf, sk, en, fk, fn, fl, fm, iu, sl, sw, sm, rs), (nI F, nI L, nI D, nI N, nI S, 0, 0, nI A, nI P, nI T, wt, lc, nI d, 0, nI n, 1, nl n, Nk, nl, N2, C1, C2, C3, nf, sk, cl, ck, cv, mk, wk, rm, gk, gn, ge, gv, gp, gq, yk, yv, 32768, 32768), -2, fun post h => ?_, fun post h => ?_, Or.inl ⟨rfl, 0 + Q + 93 * (F - A), by omega, ?_⟩⟩
  · unfold wpX_evalStep
    refine ⟨vp_in_nI (by omega) (by omega), nm_r (e' := 0) (by rw [nI_clamp (by omega)]; exact x1) (br_f (by decide) (br_f (by decide) (br_t rfl ⟨vp_in_nI (by omega) (by omega), ?_⟩)))⟩
    rw [nI_clamp (n := n) (by omega)]
    exact h
  · unfold wpY_evalStep
    refine br_f (nI_pos (by omega)) (br_t (nI_lt hn (by omega)) ⟨vp_in_nI (by omega) (by omega), nm_r (e' := 1) (by rw [nI_clamp (by omega)]; exact x2) (br_t rfl ⟨vp_in_nI (by omega) (by omega), ?_⟩)⟩)
    rw [nI_clamp (n := n) (by omega)]
    exact h
  · exact sc_MRk hB hd rfl (by omega) hH hI (Or.inr ⟨rfl, rfl, false, rfl, Or.inl ⟨rfl, rfl, rfl⟩⟩)
theorem se_var {x : Nat} (hB : sc_BA F L D N S A P sz nk nl n2 k1 k2 k3 nf sk Nk N2 C1 C2 C3) (hd : d ≤ 32) (hM : M = 3 * sz n + Q + 93 * (F - A)) (hT : 3 * T + M ≤ 9600) (hH : sc_HF g U N sz T d Q nk nl k2 k3 nf C2 C3 fk fn fl fm iu sl sw sm cl ck cv gk gn ge gv gp gq) (hI : sc_IU 32 iu) (hn : n < N) (hR : sc_RW g U (nf n) en ec yk yv) (x1 : nk n = 1) (x2 : Nk n = 2) (hx : x < 8) (ex : nl n = nI x) (hf : bt (nf n) x = true) : ∃ u1 v1 r, (∀ post : SX → Prop, post u1 → wpX_evalStep post (nI F, nI L, nI D, nI N, nI S, 0, 0, nI A, nI P, -2, 1, nI n, ec, va, vc, nI d, rc, nk, nl, n2, k1, k2, k3, nf, sk, en, fk, fn, fl, fm, iu, sl, sw, sm, rs)) ∧ (∀ post : Int32 → SY → Prop, post r v1 → wpY_evalStep post (nI F, nI L, nI D, nI N, nI S, 0, 0, nI A, nI P, nI T, wt, lc, nI d, 1, nI n, rK, rV, Nk, nl, N2, C1, C2, C3, nf, sk, cl, ck, cv, mk, wk, rm, gk, gn, ge, gv, gp, gq, yk, yv, 32768, 32768)) ∧ sc_SR M r u1 v1 := by
  have hN := hB.1.2.2.2.2.1
  have hs := (hB.2.1 n hn).1.1
  refine ⟨(nI F, nI L, nI D, nI N, nI S, 0, 0, nI A, nI P, -2, 0, nI n, ec, en x, sc_bi (bt ec x), nI d, rc, nk, nl, n2, k1, k2, k3, nf, sk, en, fk, fn, fl, fm, iu, sl, sw, sm, rs), (nI F, nI L, nI D, nI N, nI S, 0, 0, nI A, nI P, nI T, wt, lc, nI d, 0, nI n, yk x, yv x, Nk, nl, N2, C1, C2, C3, nf, sk, cl, ck, cv, mk, wk, rm, gk, gn, ge, gv, gp, gq, yk, yv, 32768, 32768), -2, fun post h => ?_, fun post h => ?_, Or.inl ⟨rfl, 0 + Q + 93 * (F - A), by omega, ?_⟩⟩
  · unfold wpX_evalStep
    refine ⟨vp_in_nI (by omega) (by omega), nm_r (e' := 1) (by rw [nI_clamp (by omega)]; exact x1) (br_f (by decide) (br_f (by decide) (br_f (by decide) (br_t rfl ⟨vp_in_nI (by omega) (by omega), ?_⟩))))⟩
    rw [nI_clamp (n := n) (by omega), ex]
    unfold wpX_evalVar
    cases hb : bt ec x with
    | false =>
      rw [hb] at h
      refine br_t ((sc_bit ec (by omega)).mpr hb) ⟨vp_in_nI hx (by omega), ?_⟩
      rw [nI_clamp (n := x) (by omega)]
      exact h
    | true =>
      rw [hb] at h
      refine br_f (fun z => by rw [(sc_bit ec (by omega)).mp z] at hb; cases hb) ⟨vp_in_nI hx (by omega), ?_⟩
      rw [nI_clamp (n := x) (by omega)]
      exact h
  · unfold wpY_evalStep
    refine br_f (nI_pos (by omega)) (br_t (nI_lt hn (by omega)) ⟨vp_in_nI (by omega) (by omega), nm_r (e' := 2) (by rw [nI_clamp (by omega)]; exact x2) (br_f (by decide) (br_t rfl ⟨vp_in_nI (by omega) (by omega), nm_r (e' := nI x) (by rw [nI_clamp (by omega)]; exact ex) ⟨vp_in_nI hx (by omega), vp_in_nI hx (by omega), ?_⟩⟩))⟩)
    rw [nI_clamp (n := x) (by omega)]
    exact h
  · exact sc_MRk hB hd rfl (by omega) hH hI (Or.inr ⟨rfl, rfl, bt ec x, rfl, hR x hx hf⟩)
theorem sc_HF_p {w : Nat} {f f' m : Int32} (hH : sc_HF g U N sz T d Q nk nl k2 k3 nf C2 C3 fk fn fl fm iu sl sw sm cl ck cv gk gn ge gv gp gq) (hF : sc_FO g U N sz nl k2 k3 nf C2 C3 (upd fk d f) (upd fn d (nI n)) (sc_wr fl (d * 8) en 8) (upd fm d m) (upd gk d f') (upd gn d (nI n)) (sc_wr ge (d * 8) yk 8) (sc_wr gv (d * 8) yv 8) gp gq d w) : sc_HF g U N sz T (d + 1) (w + Q) nk nl k2 k3 nf C2 C3 (upd fk d f) (upd fn d (nI n)) (sc_wr fl (d * 8) en 8) (upd fm d m) iu sl sw sm cl ck cv (upd gk d f') (upd gn d (nI n)) (sc_wr ge (d * 8) yk 8) (sc_wr gv (d * 8) yv 8) gp gq := by
  obtain ⟨h1, h2, h3⟩ := hH
  refine ⟨h1, h2, w, Q, hF, rfl, sc_FS_m (fun i w' hi h => ?_) h3⟩
  have ne : i ≠ d := by omega
  exact sc_FO_c h (pk_un ne) (pk_un ne) (fun y hy => sc_wr_r ne hy) (pk_un ne) (pk_un ne) (pk_un ne) (fun y hy => sc_wr_r ne hy) (fun y hy => sc_wr_r ne hy) rfl rfl
/-- the four kinds of node that push a frame -/
theorem se_push {a w : Nat} {f f' m : Int32} (hB : sc_BA F L D N S A P sz nk nl n2 k1 k2 k3 nf sk Nk N2 C1 C2 C3) (hd : d ≤ 32) (hM : M = 3 * sz n + Q + 93 * (F - A)) (hT : 3 * T + M ≤ 9600) (hH : sc_HF g U N sz T d Q nk nl k2 k3 nf C2 C3 fk fn fl fm iu sl sw sm cl ck cv gk gn ge gv gp gq) (hI : sc_IU 32 iu) (hn : n < N) (hR : sc_RW g U (nf n) en ec yk yv) (ha : a < N) (e1 : k1 n = nI a) (e2 : C1 n = nI a) (hf : ∀ y, y < 8 → bt (nf a) y = true → bt (nf n) y = true) (hw : 3 * sz a + w < 3 * sz n) (hF : d < 32 → sc_FO g U N sz nl k2 k3 nf C2 C3 (upd fk d f) (upd fn d (nI n)) (sc_wr fl (d * 8) en 8) (upd fm d (ec &&& m)) (upd gk d f') (upd gn d (nI n)) (sc_wr ge (d * 8) yk 8) (sc_wr gv (d * 8) yv 8) gp gq d w) (hX : ∀ (u1 : SX) (post : SX → Prop), (∀ post' : SX → Prop, post' u1 → wpX_evalFirstChild post' (nI F, nI L, nI D, nI N, nI S, 0, 0, nI A, nI P, -2, 1, nI n, ec, va, vc, nI d, rc, nk, nl, n2, k1, k2, k3, nf, sk, en, fk, fn, fl, fm, iu, sl, sw, sm, rs) (nI n) f m) → post u1 → wpX_evalStep post (nI F, nI L, nI D, nI N, nI S, 0, 0, nI A, nI P, -2, 1, nI n, ec, va, vc, nI d, rc, nk, nl, n2, k1, k2, k3, nf, sk, en, fk, fn, fl, fm, iu, sl, sw, sm, rs)) (hY : ∀ post : Int32 → SY → Prop, wY_evalStep_333 post (nI n) f' (nI F) (nI L) (nI D) (nI N) (nI S) 0 0 (nI A) (nI P) (nI T) wt lc (nI d) 1 (nI n) rK rV Nk nl N2 C1 C2 C3 nf sk cl ck cv mk wk rm gk gn ge gv gp gq yk yv 32768 32768 → wpY_evalStep post (nI F, nI L, nI D, nI N, nI S, 0, 0, nI A, nI P, nI T, wt, lc, nI d, 1, nI n, rK, rV, Nk, nl, N2, C1, C2, C3, nf, sk, cl, ck, cv, mk, wk, rm, gk, gn, ge, gv, gp, gq, yk, yv, 32768, 32768)) : ∃ u1 v1 r, (∀ post : SX → Prop, post u1 → wpX_evalStep post (nI F, nI L, nI D, nI N, nI S, 0, 0, nI A, nI P, -2, 1, nI n, ec, va, vc, nI d, rc, nk, nl, n2, k1, k2, k3, nf, sk, en, fk, fn, fl, fm, iu, sl, sw, sm, rs)) ∧ (∀ post : Int32 → SY → Prop, post r v1 → wpY_evalStep post (nI F, nI L, nI D, nI N, nI S, 0, 0, nI A, nI P, nI T, wt, lc, nI d, 1, nI n, rK, rV, Nk, nl, N2, C1, C2, C3, nf, sk, cl, ck, cv, mk, wk, rm, gk, gn, ge, gv, gp, gq, yk, yv, 32768, 32768)) ∧ sc_SR M r u1 v1 := by
  have hN := hB.1.2.2.2.2.1
  have hD := hB.1.2.2.2.1
  by_cases hdD : d < D
  · refine ⟨_, _, -2, fun post h => hX _ post (fun post' h' => xw_first (by omega) hdD hD h') h, fun post h => hY post (yw_push (by omega) hdD hD h), Or.inl ⟨rfl, 3 * sz a + (w + Q) + 93 * (F - A), by omega, ?_⟩⟩
    rw [e1, e2]
    exact sc_MRk hB (by omega) rfl (by omega) (sc_HF_p hH (hF (by omega))) hI (Or.inl ⟨rfl, a, ha, rfl, rfl, rfl, sc_RW_a hR hf (fun _ _ _ => rfl)⟩)
  · refine ⟨_, (nI F, nI L, nI D, nI N, nI S, 0, 0, nI A, nI P, nI T, wt, lc, nI d, 1, nI n, rK, rV, Nk, nl, N2, C1, C2, C3, nf, sk, cl, ck, cv, mk, wk, rm, gk, gn, ge, gv, gp, gq, yk, yv, 32768, 32768), 5, fun post h => hX _ post (fun post' h' => xw_deep (by omega) (by omega) h') h, fun post h => hY post ?_, Or.inr (Or.inl ⟨by decide, by decide, sc_ERk hB⟩)⟩
    exact br_f (nI_nlt (by omega) (by omega)) h
end
end
section
/-! ===== the four kinds of node that push a frame ===== -/
section
variable {fu ll dl nc ss hk hv ca pk st ev cu ec va vc dp rc hK hV ct wt lc yc rK rV : Int32} {nk nl n2 k1 k2 k3 nf sk en fk fn fl fm iu sl sw sm rs Nk N2 C1 C2 C3 cl ck cv mk wk rm gk gn ge gv gp gq yk yv : Nat → Int32}
variable {F L D N S A P T d n q Q M : Nat} {sz g : Nat → Nat} {U : Nat → Prop}
theorem se_app {a b : Nat} (hB : sc_BA F L D N S A P sz nk nl n2 k1 k2 k3 nf sk Nk N2 C1 C2 C3) (hd : d ≤ 32) (hM : M = 3 * sz n + Q + 93 * (F - A)) (hT : 3 * T + M ≤ 9600) (hH : sc_HF g U N sz T d Q nk nl k2 k3 nf C2 C3 fk fn fl fm iu sl sw sm cl ck cv gk gn ge gv gp gq) (hI : sc_IU 32 iu) (hn : n < N) (hR : sc_RW g U (nf n) en ec yk yv) (x1 : nk n = 3) (x2 : Nk n = 4) (ha : a < N) (hb : b < N) (e1 : k1 n = nI a) (e2 : k2 n = nI b) (e3 : C1 n = nI a) (e4 : C2 n = nI b) (hz : sz n = 1 + sz a + sz b) (hfa : ∀ y, y < 8 → bt (nf a) y = true → bt (nf n) y = true) (hfb : ∀ y, y < 8 → bt (nf b) y = true → bt (nf n) y = true) : ∃ u1 v1 r, (∀ post : SX → Prop, post u1 → wpX_evalStep post (nI F, nI L, nI D, nI N, nI S, 0, 0, nI A, nI P, -2, 1, nI n, ec, va, vc, nI d, rc, nk, nl, n2, k1, k2, k3, nf, sk, en, fk, fn, fl, fm, iu, sl, sw, sm, rs)) ∧ (∀ post : Int32 → SY → Prop, post r v1 → wpY_evalStep post (nI F, nI L, nI D, nI N, nI S, 0, 0, nI A, nI P, nI T, wt, lc, nI d, 1, nI n, rK, rV, Nk, nl, N2, C1, C2, C3, nf, sk, cl, ck, cv, mk, wk, rm, gk, gn, ge, gv, gp, gq, yk, yv, 32768, 32768)) ∧ sc_SR M r u1 v1 := by
  have hN := hB.1.2.2.2.2.1
  refine se_push (f := 0) (f' := 1) (m := nf b) (w := 3 * sz b + 2) hB hd hM hT hH hI hn hR ha e1 e3 hfa (by omega) (fun _ => ⟨n, hn, pk_us, pk_us, Or.inl ⟨Or.inl ⟨pk_us, pk_us⟩, b, hb, e2, e4, rfl, by rw [pk_us]; exact sc_row1 hR hfb, by rw [pk_us]; exact sc_row2⟩⟩) (fun u1 post K h => ?_) (fun post h => ?_)
  · obtain ⟨_, _, _, _, _, _, _, _, _, _, _, _, _, _, _, _, _, _, _, _, _, _, _, _, _, _, _, _, _, _, _, _, _, _, _⟩ := u1
    unfold wpX_evalStep
    refine ⟨vp_in_nI (by omega) (by omega), nm_r (e' := 3) (by rw [nI_clamp (by omega)]; exact x1) (br_f (by decide) (br_f (by decide) (br_f (by decide) (br_f (by decide) (br_f (by decide) (br_t rfl ⟨vp_in_nI (by omega) (by omega), by rw [nI_clamp (n := n) (by omega), e2]; exact vp_in_nI (by omega) (by omega), ?_⟩))))))⟩
    rw [nI_clamp (n := n) (by omega), e2, nI_clamp (n := b) (by omega)]
    exact K _ h
  · unfold wpY_evalStep
    refine br_f (nI_pos (by omega)) (br_t (nI_lt hn (by omega)) ⟨vp_in_nI (by omega) (by omega), nm_r (e' := 4) (by rw [nI_clamp (by omega)]; exact x2) (br_f (by decide) (br_f (by decide) (br_f (by decide) (br_f (by decide) (br_t rfl (br_f (by decide) (br_f (by decide) h)))))))⟩)
theorem se_prim {a b : Nat} (hB : sc_BA F L D N S A P sz nk nl n2 k1 k2 k3 nf sk Nk N2 C1 C2 C3) (hd : d ≤ 32) (hM : M = 3 * sz n + Q + 93 * (F - A)) (hT : 3 * T + M ≤ 9600) (hH : sc_HF g U N sz T d Q nk nl k2 k3 nf C2 C3 fk fn fl fm iu sl sw sm cl ck cv gk gn ge gv gp gq) (hI : sc_IU 32 iu) (hn : n < N) (hR : sc_RW g U (nf n) en ec yk yv) (x1 : nk n = 4) (x2 : Nk n = 5) (ha : a < N) (hb : b < N) (e1 : k1 n = nI a) (e2 : k2 n = nI b) (e3 : C1 n = nI a) (e4 : C2 n = nI b) (hz : sz n = 1 + sz a + sz b) (hfa : ∀ y, y < 8 → bt (nf a) y = true → bt (nf n) y = true) (hfb : ∀ y, y < 8 → bt (nf b) y = true → bt (nf n) y = true) : ∃ u1 v1 r, (∀ post : SX → Prop, post u1 → wpX_evalStep post (nI F, nI L, nI D, nI N, nI S, 0, 0, nI A, nI P, -2, 1, nI n, ec, va, vc, nI d, rc, nk, nl, n2, k1, k2, k3, nf, sk, en, fk, fn, fl, fm, iu, sl, sw, sm, rs)) ∧ (∀ post : Int32 → SY → Prop, post r v1 → wpY_evalStep post (nI F, nI L, nI D, nI N, nI S, 0, 0, nI A, nI P, nI T, wt, lc, nI d, 1, nI n, rK, rV, Nk, nl, N2, C1, C2, C3, nf, sk, cl, ck, cv, mk, wk, rm, gk, gn, ge, gv, gp, gq, yk, yv, 32768, 32768)) ∧ sc_SR M r u1 v1 := by
  have hN := hB.1.2.2.2.2.1
  refine se_push (f := 2) (f' := 3) (m := nf b) (w := 3 * sz b + 2) hB hd hM hT hH hI hn hR ha e1 e3 hfa (by omega) (fun _ => ⟨n, hn, pk_us, pk_us, Or.inl ⟨Or.inr ⟨pk_us, pk_us⟩, b, hb, e2, e4, rfl, by rw [pk_us]; exact sc_row1 hR hfb, by rw [pk_us]; exact sc_row2⟩⟩) (fun u1 post K h => ?_) (fun post h => ?_)
  · obtain ⟨_, _, _, _, _, _, _, _, _, _, _, _, _, _, _, _, _, _, _, _, _, _, _, _, _, _, _, _, _, _, _, _, _, _, _⟩ := u1
    unfold wpX_evalStep
    refine ⟨vp_in_nI (by omega) (by omega), nm_r (e' := 4) (by rw [nI_clamp (by omega)]; exact x1) (br_f (by decide) (br_f (by decide) (br_f (by decide) (br_f (by decide) (br_f (by decide) (br_f (by decide) (br_t rfl ⟨vp_in_nI (by omega) (by omega), by rw [nI_clamp (n := n) (by omega), e2]; exact vp_in_nI (by omega) (by omega), ?_⟩)))))))⟩
    rw [nI_clamp (n := n) (by omega), e2, nI_clamp (n := b) (by omega)]
    exact K _ h
  · unfold wpY_evalStep
    refine br_f (nI_pos (by omega)) (br_t (nI_lt hn (by omega)) ⟨vp_in_nI (by omega) (by omega), nm_r (e' := 5) (by rw [nI_clamp (by omega)]; exact x2) (br_f (by decide) (br_f (by decide) (br_f (by decide) (br_f (by decide) (br_f (by decide) (br_t rfl (br_f (by decide) h)))))))⟩)
theorem se_if {a b e : Nat} (hB : sc_BA F L D N S A P sz nk nl n2 k1 k2 k3 nf sk Nk N2 C1 C2 C3) (hd : d ≤ 32) (hM : M = 3 * sz n + Q + 93 * (F - A)) (hT : 3 * T + M ≤ 9600) (hH : sc_HF g U N sz T d Q nk nl k2 k3 nf C2 C3 fk fn fl fm iu sl sw sm cl ck cv gk gn ge gv gp gq) (hI : sc_IU 32 iu) (hn : n < N) (hR : sc_RW g U (nf n) en ec yk yv) (x1 : nk n = 5) (x2 : Nk n = 6) (ha : a < N) (hb : b < N) (he : e < N) (e1 : k1 n = nI a) (e2 : k2 n = nI b) (e5 : k3 n = nI e) (e3 : C1 n = nI a) (e4 : C2 n = nI b) (e6 : C3 n = nI e) (hz : sz n = 1 + sz a + sz b + sz e) (hfa : ∀ y, y < 8 → bt (nf a) y = true → bt (nf n) y = true) (hfb : ∀ y, y < 8 → bt (nf b ||| nf e) y = true → bt (nf n) y = true) : ∃ u1 v1 r, (∀ post : SX → Prop, post u1 → wpX_evalStep post (nI F, nI L, nI D, nI N, nI S, 0, 0, nI A, nI P, -2, 1, nI n, ec, va, vc, nI d, rc, nk, nl, n2, k1, k2, k3, nf, sk, en, fk, fn, fl, fm, iu, sl, sw, sm, rs)) ∧ (∀ post : Int32 → SY → Prop, post r v1 → wpY_evalStep post (nI F, nI L, nI D, nI N, nI S, 0, 0, nI A, nI P, nI T, wt, lc, nI d, 1, nI n, rK, rV, Nk, nl, N2, C1, C2, C3, nf, sk, cl, ck, cv, mk, wk, rm, gk, gn, ge, gv, gp, gq, yk, yv, 32768, 32768)) ∧ sc_SR M r u1 v1 := by
  have hN := hB.1.2.2.2.2.1
  refine se_push (f := 4) (f' := 5) (m := nf b ||| nf e) (w := 3 * (sz b + sz e) + 1) hB hd hM hT hH hI hn hR ha e1 e3 hfa (by omega) (fun _ => ⟨n, hn, pk_us, pk_us, Or.inr (Or.inr (Or.inl ⟨pk_us, pk_us, b, e, hb, he, e2, e4, e5, e6, rfl, by rw [pk_us]; exact sc_row1 hR hfb, by rw [pk_us]; exact sc_row2⟩))⟩) (fun u1 post K h => ?_) (fun post h => ?_)
  · obtain ⟨_, _, _, _, _, _, _, _, _, _, _, _, _, _, _, _, _, _, _, _, _, _, _, _, _, _, _, _, _, _, _, _, _, _, _⟩ := u1
    unfold wpX_evalStep
    refine ⟨vp_in_nI (by omega) (by omega), nm_r (e' := 5) (by rw [nI_clamp (by omega)]; exact x1) (br_f (by decide) (br_f (by decide) (br_f (by decide) (br_f (by decide) (br_f (by decide) (br_f (by decide) (br_f (by decide) (br_t rfl ⟨vp_in_nI (by omega) (by omega), by rw [nI_clamp (n := n) (by omega), e2]; exact vp_in_nI (by omega) (by omega), vp_in_nI (by omega) (by omega), by rw [nI_clamp (n := n) (by omega), e5]; exact vp_in_nI (by omega) (by omega), ?_⟩))))))))⟩
    rw [nI_clamp (n := n) (by omega), e2, e5, nI_clamp (n := b) (by omega), nI_clamp (n := e) (by omega)]
    exact K _ h
  · unfold wpY_evalStep
    refine br_f (nI_pos (by omega)) (br_t (nI_lt hn (by omega)) ⟨vp_in_nI (by omega) (by omega), nm_r (e' := 6) (by rw [nI_clamp (by omega)]; exact x2) (br_f (by decide) (br_f (by decide) (br_f (by decide) (br_f (by decide) (br_f (by decide) (br_f (by decide) (br_t rfl h)))))))⟩)
theorem se_let {x a b : Nat} (hB : sc_BA F L D N S A P sz nk nl n2 k1 k2 k3 nf sk Nk N2 C1 C2 C3) (hd : d ≤ 32) (hM : M = 3 * sz n + Q + 93 * (F - A)) (hT : 3 * T + M ≤ 9600) (hH : sc_HF g U N sz T d Q nk nl k2 k3 nf C2 C3 fk fn fl fm iu sl sw sm cl ck cv gk gn ge gv gp gq) (hI : sc_IU 32 iu) (hn : n < N) (hR : sc_RW g U (nf n) en ec yk yv) (x1 : nk n = 6) (x2 : Nk n = 7) (hx : x < 8) (ex : nl n = nI x) (ha : a < N) (hb : b < N) (e1 : k1 n = nI a) (e2 : k2 n = nI b) (e3 : C1 n = nI a) (e4 : C2 n = nI b) (hz : sz n = 1 + sz a + sz b) (hfa : ∀ y, y < 8 → bt (nf a) y = true → bt (nf n) y = true) (hfb : ∀ y, y < 8 → bt (nf b &&& (((1 : Int32) <<< (nI x &&& 31)) ^^^ (-1))) y = true → bt (nf n) y = true) : ∃ u1 v1 r, (∀ post : SX → Prop, post u1 → wpX_evalStep post (nI F, nI L, nI D, nI N, nI S, 0, 0, nI A, nI P, -2, 1, nI n, ec, va, vc, nI d, rc, nk, nl, n2, k1, k2, k3, nf, sk, en, fk, fn, fl, fm, iu, sl, sw, sm, rs)) ∧ (∀ post : Int32 → SY → Prop, post r v1 → wpY_evalStep post (nI F, nI L, nI D, nI N, nI S, 0, 0, nI A, nI P, nI T, wt, lc, nI d, 1, nI n, rK, rV, Nk, nl, N2, C1, C2, C3, nf, sk, cl, ck, cv, mk, wk, rm, gk, gn, ge, gv, gp, gq, yk, yv, 32768, 32768)) ∧ sc_SR M r u1 v1 := by
  have hN := hB.1.2.2.2.2.1
  refine se_push (f := 5) (f' := 6) (m := nf b &&& (((1 : Int32) <<< (nI x &&& 31)) ^^^ (-1))) (w := 3 * sz b + 1) hB hd hM hT hH hI hn hR ha e1 e3 hfa (by omega) (fun _ => ⟨n, hn, pk_us, pk_us, Or.inr (Or.inr (Or.inr ⟨pk_us, pk_us, x, b, hx, hb, ex, e2, e4, rfl, by rw [pk_us]; exact sc_row1 hR hfb, by rw [pk_us]; exact sc_row2⟩))⟩) (fun u1 post K h => ?_) (fun post h => ?_)
  · obtain ⟨_, _, _, _, _, _, _, _, _, _, _, _, _, _, _, _, _, _, _, _, _, _, _, _, _, _, _, _, _, _, _, _, _, _, _⟩ := u1
    unfold wpX_evalStep
    refine ⟨vp_in_nI (by omega) (by omega), nm_r (e' := 6) (by rw [nI_clamp (by omega)]; exact x1) (br_f (by decide) (br_f (by decide) (br_f (by decide) (br_f (by decide) (br_f (by decide) (br_f (by decide) (br_f (by decide) (br_f (by decide) (br_t rfl ⟨vp_in_nI (by omega) (by omega), by rw [nI_clamp (n := n) (by omega), e2]; exact vp_in_nI (by omega) (by omega), vp_in_nI (by omega) (by omega), ?_⟩)))))))))⟩
    rw [nI_clamp (n := n) (by omega), e2, nI_clamp (n := b) (by omega), ex]
    exact K _ h
  · unfold wpY_evalStep
    refine br_f (nI_pos (by omega)) (br_t (nI_lt hn (by omega)) ⟨vp_in_nI (by omega) (by omega), nm_r (e' := 7) (by rw [nI_clamp (by omega)]; exact x2) (br_f (by decide) (br_f (by decide) (br_f (by decide) (br_f (by decide) (br_f (by decide) (br_f (by decide) (br_f (by decide) h)))))))⟩)
end
end
section
/-! ===== the live check, both sides ===== -/
theorem sc_RW_s {g : Nat → Nat} {U : Nat → Prop} {m c : Int32} {r k w : Nat → Int32} (h : sc_RW g U m r c k w) (hU : ∀ s, U s → s < 34) {y : Nat} (hy : y < 8) (hm : bt m y = true) (hc : bt c y = true) : ∃ s, s < 34 ∧ r y = nI s := by
  rcases h y hy hm with ⟨z, _⟩ | ⟨_, _, s, hs, e1, _⟩
  · rw [hc] at z; cases z
  · exact ⟨s, hU s hs, e1⟩
theorem sc_FO_s {g : Nat → Nat} {U : Nat → Prop} {n0 : Nat} {sz : Nat → Nat} {lb c2 c3 fv c2' c3' fk fn fvl fc gk gn gek gev gvk gvv : Nat → Int32} {i w : Nat} (h : sc_FO g U n0 sz lb c2 c3 fv c2' c3' fk fn fvl fc gk gn gek gev gvk gvv i w) (hU : ∀ s, U s → s < 34) : ∀ y, y < 8 → bt (fc i) y = true → ∃ s, s < 34 ∧ fvl (i * 8 + y) = nI s := by
  intro y hy hc
  obtain ⟨n, h1, h2, h3, h4⟩ := h
  rcases h4 with ⟨k, b, a1, a2, a3, a4, a5, a6⟩ | ⟨k, a1, c, a2, a3⟩ | ⟨k1, k2, b, e, a1, a2, a3, a4, a5, a6, a7, a8, a9⟩ | ⟨k1, k2, x, b, a1, a2, a3, a4, a5, a6, a7, a8⟩
  · exact sc_RW_s a5 hU hy (a6 y hy hc) hc
  · rw [a2] at hc
    obtain ⟨rfl, rfl⟩ := sc_bi1 c y hy hc
    rcases a3 with ⟨z, _⟩ | ⟨_, _, t, ht, e1, _⟩
    · cases z
    · exact ⟨t, hU t ht, e1⟩
  · exact sc_RW_s a8 hU hy (a9 y hy hc) hc
  · exact sc_RW_s a7 hU hy (a8 y hy hc) hc
theorem sc_HN_s {g : Nat → Nat} {U : Nat → Prop} {n0 : Nat} {kd fv sl slv slc cl ck cv : Nat → Int32} {s : Nat} (h : sc_HN g U n0 kd fv sl slv slc cl ck cv s) (hU : ∀ s, U s → s < 34) : ∀ y, y < 8 → bt (slc s) y = true → ∃ t, t < 34 ∧ slv (s * 8 + y) = nI t := by
  intro y hy hc
  obtain ⟨l, h1, h2, h3, h4, h5, h6, h7⟩ := h
  exact sc_RW_s h5 hU hy (h6 y hy hc) hc
theorem sc_YS0 {T : Nat} {mk wk : Nat → Int32} {q w : Nat → Nat} : sc_YS T (sc_wr mk 0 (fun _ => 0) T) wk 0 0 0 0 q w := by
  refine ⟨rfl, rfl, Nat.le_refl 0, fun i hi => absurd hi (Nat.not_lt_zero i), fun i j hi => absurd hi (Nat.not_lt_zero i), fun j hj => Or.inr ⟨sc_wr_z hj, ?_⟩, fun i hi => absurd hi (Nat.not_lt_zero i)⟩
  intro h
  obtain ⟨i, hi, _⟩ := h
  exact absurd hi (Nat.not_lt_zero i)
section
variable {fu ll dl nc ss hk hv ca pk st ev cu ec va vc dp rc hK hV ct wt lc yc rK rV : Int32} {nk nl n2 k1 k2 k3 nf sk en fk fn fl fm iu sl sw sm rs Nk N2 C1 C2 C3 cl ck cv mk wk rm gk gn ge gv gp gq yk yv : Nat → Int32}
variable {F L D N S A P T d n q Q M : Nat} {sz g : Nat → Nat} {U SR : Nat → Prop}
theorem sc_HF_U (hH : sc_HF g U N sz T d Q nk nl k2 k3 nf C2 C3 fk fn fl fm iu sl sw sm cl ck cv gk gn ge gv gp gq) : (∀ s, U s → s < 34 ∧ g s < T) ∧ (∀ i, i < d → ∃ v, sc_FO g U N sz nl k2 k3 nf C2 C3 fk fn fl fm gk gn ge gv gp gq i v) := ⟨fun s hs => ⟨(hH.1.1 s hs).1, (hH.1.1 s hs).2.2⟩, fun i hi => sc_FS_at hH.2.2 hi⟩
theorem sc_HF_V (hH : sc_HF g U N sz T d Q nk nl k2 k3 nf C2 C3 fk fn fl fm iu sl sw sm cl ck cv gk gn ge gv gp gq) (hS : ∀ s, SR s → U s) : ∀ s, sc_rc (sc_RX SR fl fm d) (sc_EX sw sm) s → U s := by
  obtain ⟨hU, hF⟩ := sc_HF_U hH
  refine sc_iso1 ?_ ?_
  · intro s h
    rcases h with h | ⟨i, hi, h⟩
    · exact hS s h
    · obtain ⟨v, hv⟩ := hF i hi
      exact sc_FO_k hv (fun s hs => (hU s hs).1) s h
  · intro s t h e
    exact sc_HN_k (hH.2.1 s h) (fun s hs => (hU s hs).1) e
/-- the relation behind a check: what is known is what was reached -/
theorem sc_after {c : Nat} {qq : Nat → Nat} {iu' rs' : Nat → Int32} {rc' : Int32} (hH : sc_HF g U N sz T d Q nk nl k2 k3 nf C2 C3 fk fn fl fm iu sl sw sm cl ck cv gk gn ge gv gp gq) (hS : ∀ s, SR s → U s) (hX : sc_XS iu' rs' rc' c qq) (hin : ∀ s, sc_in c qq s ↔ sc_rc (sc_RX SR fl fm d) (sc_EX sw sm) s) (hc : c ≤ 32) : sc_HF g (sc_rc (sc_RX SR fl fm d) (sc_EX sw sm)) N sz T d Q nk nl k2 k3 nf C2 C3 fk fn fl fm iu' sl sw sm cl ck cv gk gn ge gv gp gq ∧ sc_IU 32 iu' := by
  have hV := sc_HF_V hH hS
  have hU := (sc_HF_U hH).1
  refine ⟨⟨sc_HB_r hH.1 (fun s hs => ⟨hV s hs, ?_⟩), fun s hs => sc_HN_r (hH.2.1 s (hV s hs)) (fun s hs => (hU s hs).1) (fun t e => sc_rc_e hs e), sc_FS_m (fun i w hi h => sc_FO_r h (fun s hs => (hU s hs).1) (fun s hs => sc_rc_r (Or.inr ⟨i, hi, hs⟩))) hH.2.2⟩, ?_⟩
  · rcases hX.2.2.2 s (hU s (hV s hs)).1 with h | h
    · exact h.1
    · exact absurd ((hin s).mpr hs) h.2
  · refine ⟨fun s hs => ?_, c, qq, hc, fun s hs h1 => ?_⟩
    · rcases hX.2.2.2 s hs with h | h
      · exact Or.inr h.1
      · exact Or.inl h.1
    · rcases hX.2.2.2 s hs with h | h
      · exact h.2
      · rw [h.1] at h1
        exact absurd h1 (by decide)
theorem sj_R {s0 : Nat} (hL : L ≤ 32) (hN : N ≤ 32) (hP : P ≤ 34) (hd : d ≤ 32) (hT : T ≤ 4096) (hH : sc_HF g U N sz T d Q nk nl k2 k3 nf C2 C3 fk fn fl fm iu sl sw sm cl ck cv gk gn ge gv gp gq) (hs : U s0) : ∃ iu' rs' rc' c qq mk1 wk1 lc1 wt1 mk' wk' lc' wt', sc_XS iu' rs' rc' c qq ∧ (∀ s, sc_in c qq s ↔ sc_rc (sc_RX (fun s => s = s0) fl fm d) (sc_EX sw sm) s) ∧ (∀ post : SX → Prop, post (nI F, nI L, nI D, nI N, nI S, 0, 0, nI A, nI (if c ≤ P then P else c), if c ≤ L then -2 else 6, 0, cu, ec, nI s0, vc, nI d, rc', nk, nl, n2, k1, k2, k3, nf, sk, en, fk, fn, fl, fm, iu', sl, sw, sm, rs') → wpX_checkLive post (nI F, nI L, nI D, nI N, nI S, 0, 0, nI A, nI P, -2, 0, cu, ec, nI s0, vc, nI d, rc, nk, nl, n2, k1, k2, k3, nf, sk, en, fk, fn, fl, fm, iu, sl, sw, sm, rs)) ∧ (∀ post : SY → Prop, post (nI F, nI L, nI D, nI N, nI S, 0, 0, nI A, nI P, nI T, wt1, lc1, nI d, ev, yc, rK, rV, Nk, nl, N2, C1, C2, C3, nf, sk, cl, ck, cv, mk1, wk1, rm, gk, gn, ge, gv, gp, gq, yk, yv, 32768, 32768) → wpY_markValue post (nI F, nI L, nI D, nI N, nI S, 0, 0, nI A, nI P, nI T, 0, 0, nI d, ev, yc, rK, rV, Nk, nl, N2, C1, C2, C3, nf, sk, cl, ck, cv, sc_wr mk 0 (fun _ => 0) T, wk, rm, gk, gn, ge, gv, gp, gq, yk, yv, 32768, 32768) 2 (nI (g s0))) ∧ (∀ post : Int32 → SY → Prop, post (if c ≤ L then -2 else 6) (nI F, nI L, nI D, nI N, nI S, 0, 0, nI A, nI (if c ≤ P then P else c), nI T, wt', lc', nI d, ev, yc, rK, rV, Nk, nl, N2, C1, C2, C3, nf, sk, cl, ck, cv, mk', wk', rm, gk, gn, ge, gv, gp, gq, yk, yv, 32768, 32768) → wpY_endCheck post (nI F, nI L, nI D, nI N, nI S, 0, 0, nI A, nI P, nI T, wt1, lc1, nI d, ev, yc, rK, rV, Nk, nl, N2, C1, C2, C3, nf, sk, cl, ck, cv, mk1, wk1, rm, gk, gn, ge, gv, gp, gq, yk, yv, 32768, 32768)) := by
  obtain ⟨hU, hF⟩ := sc_HF_U hH
  have hS : ∀ s, s = s0 → U s := fun s e => e ▸ hs
  have hV := sc_HF_V (SR := fun s => s = s0) hH hS
  obtain ⟨iu', rs', rc', c, qq, a1, a2, KX⟩ := xw_checkR (fu := nI F) (dl := nI D) (nc := nI N) (ss := nI S) (hk := 0) (hv := 0) (ca := nI A) (st := -2) (cu := cu) (ec := ec) (vc := vc) (rc := rc) (nk := nk) (nl := nl) (n2 := n2) (k1 := k1) (k2 := k2) (k3 := k3) (nf := nf) (sk := sk) (en := en) (fk := fk) (fn := fn) (fl := fl) (fm := fm) (iu := iu) (sl := sl) (sw := sw) (sm := sm) (rs := rs) (d := d) (L := L) (P := P) (s0 := s0) hd (by omega) (by omega) (hU s0 hs).1 (fun i hi => by
    obtain ⟨v, hv⟩ := hF i hi
    exact sc_FO_s hv (fun s hs => (hU s hs).1)) (fun s h => sc_HN_s (hH.2.1 s (hV s h)) (fun s hs => (hU s hs).1))
  obtain ⟨mk1, wk1, lc1, wt1, c1, p1, q1, w1, b1, b2, b3, b4, K1⟩ := yw_mark (fu := nI F) (ll := nI L) (dl := nI D) (nc := nI N) (bs := nI S) (hK := 0) (hV := 0) (ca := nI A) (pk := nI P) (ct := nI T) (sp := nI d) (ye := ev) (yc := yc) (rK := rK) (rV := rV) (Nk := Nk) (Na := nl) (N2 := N2) (C1 := C1) (C2 := C2) (C3 := C3) (Nf := nf) (bk := sk) (cl := cl) (ck := ck) (cv := cv) (rm := rm) (gk := gk) (gn := gn) (ge := ge) (gv := gv) (gp := gp) (gq := gq) (yk := yk) (yv := yv) (k := 2) (v := nI (g s0)) (sc_YS0 (T := T) (mk := mk) (wk := wk) (q := fun i => i) (w := fun i => i)) hT (fun _ => ⟨g s0, (hU s0 hs).2, rfl⟩)
  have hp1 : p1 = c1 := by have := b2.2.2.1; omega
  subst hp1
  have hg0 := (hU s0 hs).2
  have hq1 : ∀ i, i < p1 → q1 i = g s0 := by
    intro i hi
    rcases b4 i hi with h | ⟨_, e⟩
    · exact absurd h (Nat.not_lt_zero i)
    · have := b1.2.2.2.1 i hi
      exact (sc_nIi e (by omega) (by omega)).symm
  obtain ⟨mk2, wk2, lc2, wt2, c2, q2, w2, d1, d2, K2⟩ := yw_end (SR := fun s => s = s0) (d := d) (L := L) (P := P) (fu := nI F) (dl := nI D) (nc := nI N) (bs := nI S) (hK := 0) (hV := 0) (ca := nI A) (ct := nI T) (ye := ev) (yc := yc) (rK := rK) (rV := rV) (Nk := Nk) (N2 := N2) (C1 := C1) (bk := sk) (rm := rm) (yk := yk) (yv := yv) b1 hT (by omega) (by omega) hd hN hU hF hH.2.1 hS (fun i hi => ⟨s0, rfl, hq1 i hi⟩) (fun s e => by
    obtain ⟨j, hj, e2, e3⟩ := b3 rfl
    have : g s0 = j := sc_nIi e2 (by omega) (by omega)
    rw [e, this]
    exact e3) (fun i hi => by
    rcases b2.2.2.2 i hi with h | h
    · exact absurd h (Nat.not_lt_zero i)
    · exact h)
  have hcc : c = c2 := sc_same a1.2.2.1 d1.2.2.2.2.1 a2 d2 (fun s t h1 h2 e => hH.1.2 s t (hV s h1) (hV t h2) e)
  subst hcc
  exact ⟨iu', rs', rc', c, qq, mk1, wk1, lc1, wt1, mk2, wk2, lc2, wt2, a1, a2, KX, K1, K2⟩
theorem sj_E {b : Nat} (hL : L ≤ 32) (hN : N ≤ 32) (hP : P ≤ 34) (hd : d ≤ 32) (hT : T ≤ 4096) (hb : b < N) (hH : sc_HF g U N sz T d Q nk nl k2 k3 nf C2 C3 fk fn fl fm iu sl sw sm cl ck cv gk gn ge gv gp gq) (hR : sc_RW g U (nf b) en ec yk yv) : (∀ s, (s < 34 ∧ ∃ y, y < 8 ∧ bt (ec &&& nf b) y = true ∧ en y = nI s) → U s) ∧ ∃ iu' rs' rc' c qq mk1 wk1 lc1 wt1 mk' wk' lc' wt', sc_XS iu' rs' rc' c qq ∧ (∀ s, sc_in c qq s ↔ sc_rc (sc_RX (fun s => s < 34 ∧ ∃ y, y < 8 ∧ bt (ec &&& nf b) y = true ∧ en y = nI s) fl fm d) (sc_EX sw sm) s) ∧ (∀ post : SX → Prop, post (nI F, nI L, nI D, nI N, nI S, 0, 0, nI A, nI (if c ≤ P then P else c), if c ≤ L then -2 else 6, 1, nI b, ec, va, vc, nI d, rc', nk, nl, n2, k1, k2, k3, nf, sk, en, fk, fn, fl, fm, iu', sl, sw, sm, rs') → wpX_checkLive post (nI F, nI L, nI D, nI N, nI S, 0, 0, nI A, nI P, -2, 1, nI b, ec, va, vc, nI d, rc, nk, nl, n2, k1, k2, k3, nf, sk, en, fk, fn, fl, fm, iu, sl, sw, sm, rs)) ∧ (∀ post : SY → Prop, post (nI F, nI L, nI D, nI N, nI S, 0, 0, nI A, nI P, nI T, wt1, lc1, nI d, ev, yc, rK, rV, Nk, nl, N2, C1, C2, C3, nf, sk, cl, ck, cv, mk1, wk1, rm, gk, gn, ge, gv, gp, gq, yk, yv, 32768, 32768) → wpY_markEnv post (nI F, nI L, nI D, nI N, nI S, 0, 0, nI A, nI P, nI T, 0, 0, nI d, ev, yc, rK, rV, Nk, nl, N2, C1, C2, C3, nf, sk, cl, ck, cv, sc_wr mk 0 (fun _ => 0) T, wk, rm, gk, gn, ge, gv, gp, gq, yk, yv, 32768, 32768) (nf b)) ∧ (∀ post : Int32 → SY → Prop, post (if c ≤ L then -2 else 6) (nI F, nI L, nI D, nI N, nI S, 0, 0, nI A, nI (if c ≤ P then P else c), nI T, wt', lc', nI d, ev, yc, rK, rV, Nk, nl, N2, C1, C2, C3, nf, sk, cl, ck, cv, mk', wk', rm, gk, gn, ge, gv, gp, gq, yk, yv, 32768, 32768) → wpY_endCheck post (nI F, nI L, nI D, nI N, nI S, 0, 0, nI A, nI P, nI T, wt1, lc1, nI d, ev, yc, rK, rV, Nk, nl, N2, C1, C2, C3, nf, sk, cl, ck, cv, mk1, wk1, rm, gk, gn, ge, gv, gp, gq, yk, yv, 32768, 32768)) := by
  obtain ⟨hU, hF⟩ := sc_HF_U hH
  have hS : ∀ s, (s < 34 ∧ ∃ y, y < 8 ∧ bt (ec &&& nf b) y = true ∧ en y = nI s) → U s := by
    intro s h
    obtain ⟨h34, y, hy, hc, e⟩ := h
    rw [b_and] at hc
    have hc := Bool.and_eq_true_iff.mp hc
    exact (sc_RW_k hR (fun s hs => (hU s hs).1) hy hc.2 hc.1 h34 e).1
  refine ⟨hS, ?_⟩
  have hV := sc_HF_V (SR := fun s => s < 34 ∧ ∃ y, y < 8 ∧ bt (ec &&& nf b) y = true ∧ en y = nI s) hH hS
  obtain ⟨iu', rs', rc', c, qq, a1, a2, KX⟩ := xw_checkE (fu := nI F) (dl := nI D) (nc := nI N) (ss := nI S) (hk := 0) (hv := 0) (ca := nI A) (st := -2) (ec := ec) (va := va) (vc := vc) (rc := rc) (nk := nk) (nl := nl) (n2 := n2) (k1 := k1) (k2 := k2) (k3 := k3) (nf := nf) (sk := sk) (en := en) (fk := fk) (fn := fn) (fl := fl) (fm := fm) (iu := iu) (sl := sl) (sw := sw) (sm := sm) (rs := rs) (d := d) (L := L) (P := P) (n := b) hd (by omega) (by omega) (by omega) (fun y hy hc => by
    rw [b_and] at hc
    have hc := Bool.and_eq_true_iff.mp hc
    exact sc_RW_s hR (fun s hs => (hU s hs).1) hy hc.2 hc.1) (fun i hi => by
    obtain ⟨v, hv⟩ := hF i hi
    exact sc_FO_s hv (fun s hs => (hU s hs).1)) (fun s h => sc_HN_s (hH.2.1 s (hV s h)) (fun s hs => (hU s hs).1))
  obtain ⟨mk1, wk1, lc1, wt1, c1, p1, q1, w1, b1, b2, b3, b4, K1⟩ := yw_rowE (fu := nI F) (ll := nI L) (dl := nI D) (nc := nI N) (bs := nI S) (hK := 0) (hV := 0) (ca := nI A) (pk := nI P) (ct := nI T) (sp := nI d) (ye := ev) (yc := yc) (rK := rK) (rV := rV) (Nk := Nk) (Na := nl) (N2 := N2) (C1 := C1) (C2 := C2) (C3 := C3) (Nf := nf) (bk := sk) (cl := cl) (ck := ck) (cv := cv) (rm := rm) (gk := gk) (gn := gn) (ge := ge) (gv := gv) (gp := gp) (gq := gq) (yk := yk) (yv := yv) (m := nf b) (sc_YS0 (T := T) (mk := mk) (wk := wk) (q := fun i => i) (w := fun i => i)) hT (fun y hy hm e => by
    obtain ⟨s, hs, _, _, e2⟩ := sc_rc1 hR (fun s hs => (hU s hs).2) hy hm e
    exact ⟨g s, (hU s hs).2, e2⟩)
  have hp1 : p1 = c1 := by have := b2.2.2.1; omega
  subst hp1
  obtain ⟨mk2, wk2, lc2, wt2, c2, q2, w2, d1, d2, K2⟩ := yw_end (SR := fun s => s < 34 ∧ ∃ y, y < 8 ∧ bt (ec &&& nf b) y = true ∧ en y = nI s) (d := d) (L := L) (P := P) (fu := nI F) (dl := nI D) (nc := nI N) (bs := nI S) (hK := 0) (hV := 0) (ca := nI A) (ct := nI T) (ye := ev) (yc := yc) (rK := rK) (rV := rV) (Nk := Nk) (N2 := N2) (C1 := C1) (bk := sk) (rm := rm) (yk := yk) (yv := yv) b1 hT (by omega) (by omega) hd hN hU hF hH.2.1 hS (fun i hi => by
    rcases b4 i hi with h | ⟨y, hy, hm, e1, e2⟩
    · exact absurd h (Nat.not_lt_zero i)
    · obtain ⟨s, hs, hc, e3, e4⟩ := sc_rc1 hR (fun s hs => (hU s hs).2) hy hm e1
      have h1 := (hU s hs).2
      have h2 := b1.2.2.2.1 i hi
      exact ⟨s, ⟨(hU s hs).1, y, hy, by rw [b_and, hc, hm]; rfl, e3⟩, sc_nIi (e2.symm.trans e4) (by omega) (by omega)⟩) (fun s h => by
    obtain ⟨h34, y, hy, hc, e⟩ := h
    rw [b_and] at hc
    have hc := Bool.and_eq_true_iff.mp hc
    obtain ⟨e1, e2, e3⟩ := sc_RW_k hR (fun s hs => (hU s hs).1) hy hc.2 hc.1 h34 e
    obtain ⟨j, hj, e4, e5⟩ := b3 y hy hc.2 e2
    have h1 := (hU s e1).2
    have : g s = j := sc_nIi (e3.symm.trans e4) (by omega) (by omega)
    rw [this]
    exact e5) (fun i hi => by
    rcases b2.2.2.2 i hi with h | h
    · exact absurd h (Nat.not_lt_zero i)
    · exact h)
  have hcc : c = c2 := sc_same a1.2.2.1 d1.2.2.2.2.1 a2 d2 (fun s t h1 h2 e => hH.1.2 s t (hV s h1) (hV t h2) e)
  subst hcc
  exact ⟨iu', rs', rc', c, qq, mk1, wk1, lc1, wt1, mk2, wk2, lc2, wt2, a1, a2, KX, K1, K2⟩
end
end
section
/-! ===== the steps of EVAL that make closures ===== -/
section
variable {fu ll dl nc ss hk hv ca pk st ev cu ec va vc dp rc hK hV ct wt lc yc rK rV : Int32} {nk nl n2 k1 k2 k3 nf sk en fk fn fl fm iu sl sw sm rs Nk N2 C1 C2 C3 cl ck cv mk wk rm gk gn ge gv gp gq yk yv : Nat → Int32}
variable {F L D N S A P T d n q Q M : Nat} {sz g : Nat → Nat} {U : Nat → Prop}
theorem sc_new1 {l s0 : Nat} (hH : sc_HF g U N sz T d Q nk nl k2 k3 nf C2 C3 fk fn fl fm iu sl sw sm cl ck cv gk gn ge gv gp gq) (h0 : s0 < 34) (hf : iu s0 = 0) (hl : l < N) (hk : nk l = 2) (hR : sc_RW (fun s => if s = s0 then T else g s) (fun s => U s ∨ s = s0) (nf l) en ec yk yv) : sc_HF (fun s => if s = s0 then T else g s) (fun s => U s ∨ s = s0) N sz (T + 1) d Q nk nl k2 k3 nf C2 C3 fk fn fl fm (upd iu s0 1) (upd sl s0 (nI l)) (sc_wr sw (s0 * 8) en 8) (upd sm s0 (ec &&& nf l)) (upd cl T (nI l)) (sc_wr ck (T * 8) (fun y => if bt (nf l) y = true then yk y else 0) 8) (sc_wr cv (T * 8) (fun y => if bt (nf l) y = true then yv y else 0) 8) gk gn ge gv gp gq := by
  have hm := sc_HB_e hH.1 hf
  refine ⟨sc_HB_t hH.1 h0 hf, ?_, sc_FS_m (fun i w hi h => sc_FO_m h hm) hH.2.2⟩
  intro s hs
  by_cases e : s = s0
  · subst e
    have eg : (if s = s then T else g s) = T := if_pos rfl
    refine sc_HN_f hR hl hk pk_us (by rw [eg]; exact pk_us) (fun y hy => sc_wr_i hy) pk_us (fun y hy => by rw [eg]; exact sc_wr_i hy) (fun y hy hb => ?_)
    rw [eg, sc_wr_i hy]
    exact if_pos hb
  · have hU : U s := hs.resolve_right e
    have hg := (hH.1.1 s hU).2.2
    have eg : (if s = s0 then T else g s) = g s := if_neg e
    have ne : g s ≠ T := by omega
    refine sc_HN_c (sc_HN_m (hH.2.1 s hU) hm hU) (pk_un e) (fun y hy => sc_wr_r e hy) (pk_un e) ?_ ?_ ?_
    · rw [eg]; exact pk_un ne
    · intro y hy; rw [eg]; exact sc_wr_r ne hy
    · intro y hy; rw [eg]; exact sc_wr_r ne hy
theorem sc_new2 {l m s1 s2 : Nat} (hH : sc_HF g U N sz T d Q nk nl k2 k3 nf C2 C3 fk fn fl fm iu sl sw sm cl ck cv gk gn ge gv gp gq) (h1 : s1 < 34) (hf1 : iu s1 = 0) (h2 : s2 < 34) (hf2 : upd iu s1 1 s2 = 0) (hl : l < N) (hk : nk l = 2) (hm : m < N) (hkm : nk m = 2) (hR1 : sc_RW (fun s => if s = s2 then T + 1 else if s = s1 then T else g s) (fun s => (U s ∨ s = s1) ∨ s = s2) (nf l) en ec yk yv) (hR2 : sc_RW (fun s => if s = s2 then T + 1 else if s = s1 then T else g s) (fun s => (U s ∨ s = s1) ∨ s = s2) (nf m) en ec yk yv) : sc_HF (fun s => if s = s2 then T + 1 else if s = s1 then T else g s) (fun s => (U s ∨ s = s1) ∨ s = s2) N sz (T + 1 + 1) d Q nk nl k2 k3 nf C2 C3 fk fn fl fm (upd (upd iu s1 1) s2 1) (upd (upd sl s1 (nI l)) s2 (nI m)) (sc_wr (sc_wr sw (s1 * 8) en 8) (s2 * 8) en 8) (upd (upd sm s1 (ec &&& nf l)) s2 (ec &&& nf m)) (upd (upd cl T (nI l)) (T + 1) (nI m)) (sc_wr (sc_wr ck (T * 8) (fun y => if bt (nf l) y = true then yk y else 0) 8) ((T + 1) * 8) (fun y => if bt (nf m) y = true then yk y else 0) 8) (sc_wr (sc_wr cv (T * 8) (fun y => if bt (nf l) y = true then yv y else 0) 8) ((T + 1) * 8) (fun y => if bt (nf m) y = true then yv y else 0) 8) gk gn ge gv gp gq := by
  have ne12 : s1 ≠ s2 := by
    intro e
    rw [← e, pk_us] at hf2
    exact absurd hf2 (by decide)
  have B1 := sc_HB_t hH.1 h1 hf1
  have m1 := sc_HB_e hH.1 hf1
  have m2 := sc_HB_e B1 hf2
  have mm : ∀ s, U s → ((U s ∨ s = s1) ∨ s = s2) ∧ (if s = s2 then T + 1 else if s = s1 then T else g s) = g s := fun s hs => ⟨(m2 s (m1 s hs).1).1, (m2 s (m1 s hs).1).2.trans (m1 s hs).2⟩
  refine ⟨sc_HB_t B1 h2 hf2, ?_, sc_FS_m (fun i w hi h => sc_FO_m h mm) hH.2.2⟩
  intro s hs
  by_cases e2 : s = s2
  · subst e2
    have eg : (if s = s then T + 1 else if s = s1 then T else g s) = T + 1 := if_pos rfl
    refine sc_HN_f hR2 hm hkm pk_us (by rw [eg]; exact pk_us) (fun y hy => sc_wr_i hy) pk_us (fun y hy => by rw [eg]; exact sc_wr_i hy) (fun y hy hb => ?_)
    rw [eg, sc_wr_i hy]
    exact if_pos hb
  · by_cases e1 : s = s1
    · subst e1
      have eg : (if s = s2 then T + 1 else if s = s then T else g s) = T := by
        rw [if_neg e2, if_pos rfl]
      refine sc_HN_f hR1 hl hk (by rw [pk_un e2]; exact pk_us) (by rw [eg, pk_un (by omega)]; exact pk_us) (fun y hy => by rw [sc_wr_r e2 hy]; exact sc_wr_i hy) (by rw [pk_un e2]; exact pk_us) (fun y hy => by rw [eg, sc_wr_r (by omega) hy]; exact sc_wr_i hy) (fun y hy hb => ?_)
      rw [eg, sc_wr_r (by omega) hy, sc_wr_i hy]
      exact if_pos hb
    · have hU : U s := (hs.resolve_right e2).resolve_right e1
      have hg := (hH.1.1 s hU).2.2
      have eg : (if s = s2 then T + 1 else if s = s1 then T else g s) = g s := (mm s hU).2
      have na : g s ≠ T := by omega
      have nb : g s ≠ T + 1 := by omega
      refine sc_HN_c (sc_HN_m (hH.2.1 s hU) mm hU) (by rw [pk_un e2, pk_un e1]) (fun y hy => by rw [sc_wr_r e2 hy, sc_wr_r e1 hy]) (by rw [pk_un e2, pk_un e1]) ?_ ?_ ?_
      · rw [eg, pk_un nb, pk_un na]
      · intro y hy; rw [eg, sc_wr_r nb hy, sc_wr_r na hy]
      · intro y hy; rw [eg, sc_wr_r nb hy, sc_wr_r na hy]
theorem sc_BA_p {c : Nat} {iu' rs' : Nat → Int32} {rc' : Int32} {qq : Nat → Nat} (hB : sc_BA F L D N S A P sz nk nl n2 k1 k2 k3 nf sk Nk N2 C1 C2 C3) (hX : sc_XS iu' rs' rc' c qq) : sc_BA F L D N S A (if c ≤ P then P else c) sz nk nl n2 k1 k2 k3 nf sk Nk N2 C1 C2 C3 := by
  have hc := sc_XS_b hX
  obtain ⟨⟨b1, b2, b3, b4, b5, b6, b7, b8⟩, h⟩ := hB
  refine ⟨⟨b1, b2, b3, b4, b5, b6, b7, ?_⟩, h⟩
  split <;> omega
theorem se_lam (hB : sc_BA F L D N S A P sz nk nl n2 k1 k2 k3 nf sk Nk N2 C1 C2 C3) (hd : d ≤ 32) (hM : M = 3 * sz n + Q + 93 * (F - A)) (hT : 3 * T + M ≤ 9600) (hH : sc_HF g U N sz T d Q nk nl k2 k3 nf C2 C3 fk fn fl fm iu sl sw sm cl ck cv gk gn ge gv gp gq) (hI : sc_IU 32 iu) (hn : n < N) (hR : sc_RW g U (nf n) en ec yk yv) (x1 : nk n = 2) (x2 : Nk n = 3) : ∃ u1 v1 r, (∀ post : SX → Prop, post u1 → wpX_evalStep post (nI F, nI L, nI D, nI N, nI S, 0, 0, nI A, nI P, -2, 1, nI n, ec, va, vc, nI d, rc, nk, nl, n2, k1, k2, k3, nf, sk, en, fk, fn, fl, fm, iu, sl, sw, sm, rs)) ∧ (∀ post : Int32 → SY → Prop, post r v1 → wpY_evalStep post (nI F, nI L, nI D, nI N, nI S, 0, 0, nI A, nI P, nI T, wt, lc, nI d, 1, nI n, rK, rV, Nk, nl, N2, C1, C2, C3, nf, sk, cl, ck, cv, mk, wk, rm, gk, gn, ge, gv, gp, gq, yk, yv, 32768, 32768)) ∧ sc_SR M r u1 v1 := by
  have hN := hB.1.2.2.2.2.1
  have hL := hB.1.2.2.1
  have hP := hB.1.2.2.2.2.2.2.2
  have hs := (hB.2.1 n hn).1.1
  obtain ⟨s0, h0, hf, KT⟩ := xw_take (fu := nI F) (ll := nI L) (dl := nI D) (nc := nI N) (ss := nI S) (hk := 0) (hv := 0) (ca := nI A) (pk := nI P) (st := -2) (ev := 1) (cu := nI n) (ec := ec) (va := va) (vc := vc) (dp := nI d) (rc := rc) (nk := nk) (nl := nl) (n2 := n2) (k1 := k1) (k2 := k2) (k3 := k3) (nf := nf) (sk := sk) (en := en) (fk := fk) (fn := fn) (fl := fl) (fm := fm) (iu := iu) (sl := sl) (sw := sw) (sm := sm) (rs := rs) (sc_IU_f hI (by omega))
  have hm := sc_HB_e hH.1 hf
  have hH' := sc_new1 hH h0 hf hn x1 (sc_RW_m hR hm)
  obtain ⟨iu', rs', rc', c, qq, mk1, wk1, lc1, wt1, mk2, wk2, lc2, wt2, a1, a2, KX, K1, K2⟩ := sj_R (F := F) (L := L) (D := D) (S := S) (A := A) (P := P) (cu := nI n) (ec := ec) (vc := 1) (rc := rc) (n2 := n2) (k1 := k1) (sk := sk) (en := en) (rs := rs) (ev := 1) (yc := nI n) (rK := rK) (rV := rV) (Nk := Nk) (N2 := N2) (C1 := C1) (mk := mk) (wk := wk) (rm := rm) (yk := yk) (yv := yv) (s0 := s0) hL hN hP hd (by omega) hH' (Or.inr rfl)
  have hA := sc_after (SR := fun s => s = s0) hH' (fun s e => Or.inr e) a1 a2
  have hB' := sc_BA_p hB a1
  rw [if_pos rfl] at K1
  by_cases hc : c ≤ L
  · rw [if_pos hc] at KX K2
    refine ⟨(nI F, nI L, nI D, nI N, nI S, 0, 0, nI A, nI (if c ≤ P then P else c), -2, 0, nI n, ec, nI s0, 1, nI d, rc', nk, nl, n2, k1, k2, k3, nf, sk, en, fk, fn, fl, fm, iu', upd sl s0 (nI n), sc_wr sw (s0 * 8) en 8, upd sm s0 (ec &&& nf n), rs'), (nI F, nI L, nI D, nI N, nI S, 0, 0, nI A, nI (if c ≤ P then P else c), nI (T + 1), wt2, lc2, nI d, 0, nI n, 2, nI T, Nk, nl, N2, C1, C2, C3, nf, sk, upd cl T (nI n), sc_wr ck (T * 8) (fun y => if bt (nf n) y = true then yk y else 0) 8, sc_wr cv (T * 8) (fun y => if bt (nf n) y = true then yv y else 0) 8, mk2, wk2, rm, gk, gn, ge, gv, gp, gq, yk, yv, 32768, 32768), -2, fun post h => ?_, fun post h => ?_, Or.inl ⟨rfl, 0 + Q + 93 * (F - A), by omega, ?_⟩⟩
    · unfold wpX_evalStep
      refine ⟨vp_in_nI (by omega) (by omega), nm_r (e' := 2) (by rw [nI_clamp (by omega)]; exact x1) (br_f (by decide) (br_f (by decide) (br_f (by decide) (br_f (by decide) (br_t rfl ?_)))))⟩
      unfold wpX_evalLam
      refine KT _ (xw_make h0 (by omega) ?_)
      unfold wpX_giveClosure
      exact KX _ h
    · unfold wpY_evalStep
      refine br_f (nI_pos (by omega)) (br_t (nI_lt hn (by omega)) ⟨vp_in_nI (by omega) (by omega), nm_r (e' := 3) (by rw [nI_clamp (by omega)]; exact x2) (br_f (by decide) (br_f (by decide) (br_t rfl ?_)))⟩)
      refine yw_alloc (by omega) ⟨vp_in_nI (by omega) (by omega), ?_⟩
      rw [nI_clamp (n := n) (by omega)]
      refine yw_fill (by omega) (yw_begin (by omega) (K1 _ (K2 _ ?_)))
      exact br_t rfl h
    · obtain ⟨hA1, hA2⟩ := hA (by omega)
      refine sc_MRk hB' hd rfl (by omega) hA1 hA2 (Or.inr ⟨rfl, rfl, true, rfl, Or.inr ⟨rfl, rfl, s0, sc_rc_r (Or.inl rfl), rfl, ?_⟩⟩)
      dsimp only
      rw [if_pos rfl]
  · rw [if_neg hc] at KX K2
    refine ⟨(nI F, nI L, nI D, nI N, nI S, 0, 0, nI A, nI (if c ≤ P then P else c), 6, 0, nI n, ec, nI s0, 1, nI d, rc', nk, nl, n2, k1, k2, k3, nf, sk, en, fk, fn, fl, fm, iu', upd sl s0 (nI n), sc_wr sw (s0 * 8) en 8, upd sm s0 (ec &&& nf n), rs'), (nI F, nI L, nI D, nI N, nI S, 0, 0, nI A, nI (if c ≤ P then P else c), nI (T + 1), wt2, lc2, nI d, 1, nI n, rK, rV, Nk, nl, N2, C1, C2, C3, nf, sk, upd cl T (nI n), sc_wr ck (T * 8) (fun y => if bt (nf n) y = true then yk y else 0) 8, sc_wr cv (T * 8) (fun y => if bt (nf n) y = true then yv y else 0) 8, mk2, wk2, rm, gk, gn, ge, gv, gp, gq, yk, yv, 32768, 32768), 6, fun post h => ?_, fun post h => ?_, Or.inr (Or.inl ⟨by decide, by decide, sc_ERk hB'⟩)⟩
    · unfold wpX_evalStep
      refine ⟨vp_in_nI (by omega) (by omega), nm_r (e' := 2) (by rw [nI_clamp (by omega)]; exact x1) (br_f (by decide) (br_f (by decide) (br_f (by decide) (br_f (by decide) (br_t rfl ?_)))))⟩
      unfold wpX_evalLam
      refine KT _ (xw_make h0 (by omega) ?_)
      unfold wpX_giveClosure
      exact KX _ h
    · unfold wpY_evalStep
      refine br_f (nI_pos (by omega)) (br_t (nI_lt hn (by omega)) ⟨vp_in_nI (by omega) (by omega), nm_r (e' := 3) (by rw [nI_clamp (by omega)]; exact x2) (br_f (by decide) (br_f (by decide) (br_t rfl ?_)))⟩)
      refine yw_alloc (by omega) ⟨vp_in_nI (by omega) (by omega), ?_⟩
      rw [nI_clamp (n := n) (by omega)]
      refine yw_fill (by omega) (yw_begin (by omega) (K1 _ (K2 _ ?_)))
      exact br_f (by decide) h
end
end
section
/-! ===== the steps of EVAL at a letrec ===== -/
section
variable {fu ll dl nc ss hk hv ca pk st ev cu ec va vc dp rc hK hV ct wt lc yc rK rV : Int32} {nk nl n2 k1 k2 k3 nf sk en fk fn fl fm iu sl sw sm rs Nk N2 C1 C2 C3 cl ck cv mk wk rm gk gn ge gv gp gq yk yv : Nat → Int32}
variable {F L D N S A P T d n q Q M : Nat} {sz g : Nat → Nat} {U : Nat → Prop}
theorem se_let1 {x l b : Nat} (hB : sc_BA F L D N S A P sz nk nl n2 k1 k2 k3 nf sk Nk N2 C1 C2 C3) (hd : d ≤ 32) (hM : M = 3 * sz n + Q + 93 * (F - A)) (hT : 3 * T + M ≤ 9600) (hH : sc_HF g U N sz T d Q nk nl k2 k3 nf C2 C3 fk fn fl fm iu sl sw sm cl ck cv gk gn ge gv gp gq) (hI : sc_IU 32 iu) (hn : n < N) (hR : sc_RW g U (nf n) en ec yk yv) (x1 : nk n = 7) (x2 : Nk n = 8) (hx : x < 8) (ex : nl n = nI x) (hl : l < N) (hb : b < N) (hk : nk l = 2) (e1 : k1 n = nI l) (e2 : k2 n = nI b) (e3 : C1 n = nI l) (e4 : C2 n = -1) (e5 : C3 n = nI b) (hz : sz n = 1 + sz l + sz b) (hzl : 1 ≤ sz l) (hfl : ∀ y, y < 8 → bt (nf l) y = true → y ≠ x → bt (nf n) y = true) (hfb : ∀ y, y < 8 → bt (nf b) y = true → y ≠ x → bt (nf n) y = true) : ∃ u1 v1 r, (∀ post : SX → Prop, post u1 → wpX_evalStep post (nI F, nI L, nI D, nI N, nI S, 0, 0, nI A, nI P, -2, 1, nI n, ec, va, vc, nI d, rc, nk, nl, n2, k1, k2, k3, nf, sk, en, fk, fn, fl, fm, iu, sl, sw, sm, rs)) ∧ (∀ post : Int32 → SY → Prop, post r v1 → wpY_evalStep post (nI F, nI L, nI D, nI N, nI S, 0, 0, nI A, nI P, nI T, wt, lc, nI d, 1, nI n, rK, rV, Nk, nl, N2, C1, C2, C3, nf, sk, cl, ck, cv, mk, wk, rm, gk, gn, ge, gv, gp, gq, yk, yv, 32768, 32768)) ∧ sc_SR M r u1 v1 := by
  have hN := hB.1.2.2.2.2.1
  have hL := hB.1.2.2.1
  have hP := hB.1.2.2.2.2.2.2.2
  obtain ⟨s0, h0, hf, KT⟩ := xw_take (fu := nI F) (ll := nI L) (dl := nI D) (nc := nI N) (ss := nI S) (hk := 0) (hv := 0) (ca := nI A) (pk := nI P) (st := -2) (ev := 1) (cu := nI n) (ec := ec) (va := va) (vc := vc) (dp := nI d) (rc := rc) (nk := nk) (nl := nl) (n2 := n2) (k1 := k1) (k2 := k2) (k3 := k3) (nf := nf) (sk := sk) (en := en) (fk := fk) (fn := fn) (fl := fl) (fm := fm) (iu := iu) (sl := sl) (sw := sw) (sm := sm) (rs := rs) (sc_IU_f hI (by omega))
  have hm := sc_HB_e hH.1 hf
  have hv : sc_VR (fun s => if s = s0 then T else g s) (fun s => U s ∨ s = s0) (nI s0) true 2 (nI T) := Or.inr ⟨rfl, rfl, s0, Or.inr rfl, rfl, by dsimp only; rw [if_pos rfl]⟩
  have hR' : ∀ j, (∀ y, y < 8 → bt (nf j) y = true → y ≠ x → bt (nf n) y = true) → sc_RW (fun s => if s = s0 then T else g s) (fun s => U s ∨ s = s0) (nf j) (upd en x (nI s0)) (sc_bm ec x true) (upd yk x 2) (upd yv x (nI T)) := fun j hj => sc_RW_b (sc_RW_m hR hm) hv hj (fun y hy e => sc_bm_o hx hy e) (sc_bm_s hx)
  have hH' := sc_new1 hH h0 hf hl hk (hR' l hfl)
  obtain ⟨hS, iu', rs', rc', c, qq, mk1, wk1, lc1, wt1, mk2, wk2, lc2, wt2, a1, a2, KX, K1, K2⟩ := sj_E (F := F) (L := L) (D := D) (S := S) (A := A) (P := P) (va := va) (vc := vc) (rc := rc) (n2 := n2) (k1 := k1) (sk := sk) (rs := rs) (ev := 1) (yc := nI n) (rK := rK) (rV := rV) (Nk := Nk) (N2 := N2) (C1 := C1) (mk := mk) (wk := wk) (rm := rm) hL hN hP hd (by omega) hb hH' (hR' b hfb)
  have hA := sc_after hH' hS a1 a2
  have hB' := sc_BA_p hB a1
  by_cases hc : c ≤ L
  · rw [if_pos hc] at KX K2
    refine ⟨(nI F, nI L, nI D, nI N, nI S, 0, 0, nI A, nI (if c ≤ P then P else c), -2, 1, nI b, sc_bm ec x true, va, vc, nI d, rc', nk, nl, n2, k1, k2, k3, nf, sk, upd en x (nI s0), fk, fn, fl, fm, iu', upd sl s0 (nI l), sc_wr sw (s0 * 8) (upd en x (nI s0)) 8, upd sm s0 (sc_bm ec x true &&& nf l), rs'), (nI F, nI L, nI D, nI N, nI S, 0, 0, nI A, nI (if c ≤ P then P else c), nI (T + 1), wt2, lc2, nI d, 1, nI b, rK, rV, Nk, nl, N2, C1, C2, C3, nf, sk, upd cl T (nI l), sc_wr ck (T * 8) (fun y => if bt (nf l) y = true then (upd yk x 2) y else 0) 8, sc_wr cv (T * 8) (fun y => if bt (nf l) y = true then (upd yv x (nI T)) y else 0) 8, mk2, wk2, rm, gk, gn, ge, gv, gp, gq, upd yk x 2, upd yv x (nI T), 32768, 32768), -2, fun post h => ?_, fun post h => ?_, Or.inl ⟨rfl, 3 * sz b + Q + 93 * (F - A), by omega, ?_⟩⟩
    · unfold wpX_evalStep
      refine ⟨vp_in_nI (by omega) (by omega), nm_r (e' := 7) (by rw [nI_clamp (by omega)]; exact x1) (br_f (by decide) (br_f (by decide) (br_f (by decide) (br_f (by decide) (br_f (by decide) (br_f (by decide) (br_f (by decide) (br_f (by decide) (br_f (by decide) (br_t rfl ?_))))))))))⟩
      unfold wpX_evalLetrecOne
      refine KT _ ⟨vp_in_nI (by omega) (by omega), ?_⟩
      rw [nI_clamp (n := n) (by omega), ex]
      refine xw_bind hx (nI s0) true ⟨vp_in_nI (by omega) (by omega), ?_⟩
      rw [e1]
      refine xw_make h0 (by omega) ⟨vp_in_nI (by omega) (by omega), ?_⟩
      rw [e2]
      unfold wpX_evaluate
      exact KX _ h
    · unfold wpY_evalStep
      refine br_f (nI_pos (by omega)) (br_t (nI_lt hn (by omega)) ⟨vp_in_nI (by omega) (by omega), nm_r (e' := 8) (by rw [nI_clamp (by omega)]; exact x2) (br_f (by decide) (br_f (by decide) (br_f (by decide) (br_t rfl ⟨vp_in_nI (by omega) (by omega), ?_⟩))))⟩)
      rw [nI_clamp (n := n) (by omega), e3]
      refine yw_alloc (by omega) ⟨vp_in_nI (by omega) (by omega), br_t (by rw [e4]; decide) ?_⟩
      unfold wY_evalStep_168
      rw [nI_clamp (n := n) (by omega), ex, nI_clamp (n := x) (by omega)]
      refine ⟨vp_in_nI (by omega) (by omega), vp_in_nI hx (by omega), nm_e ⟨vp_in_nI (by omega) (by omega), vp_in_nI hx (by omega), nm_e (br_t (by decide) ?_)⟩⟩
      unfold wY_evalStep_222
      rw [nI_clamp (n := n) (by omega), e3, nI_clamp (n := l) (by omega)]
      refine ⟨vp_in_nI (by omega) (by omega), vp_in_nI (by omega) (by omega), yw_fill (by omega) (br_t (by decide) ?_)⟩
      unfold wY_evalStep_260
      refine yw_begin (by omega) ⟨vp_in_nI (by omega) (by omega), ?_⟩
      rw [nI_clamp (n := n) (by omega), e5, nI_clamp (n := b) (by omega)]
      refine ⟨vp_in_nI (by omega) (by omega), K1 _ (K2 _ ?_)⟩
      exact br_t rfl ⟨vp_in_nI (by omega) (by omega), nm_r (e' := nI b) e5 h⟩
    · obtain ⟨hA1, hA2⟩ := hA (by omega)
      refine sc_MRk hB' hd rfl (by omega) hA1 hA2 (Or.inl ⟨rfl, b, hb, rfl, rfl, rfl, sc_RW_r (hR' b hfb) ?_⟩)
      intro y s hy hmb hcc hs e
      exact sc_rc_r (Or.inl ⟨((sc_HF_U hH').1 s hs).1, y, hy, by rw [b_and, hcc, hmb]; rfl, e⟩)
  · rw [if_neg hc] at KX K2
    refine ⟨(nI F, nI L, nI D, nI N, nI S, 0, 0, nI A, nI (if c ≤ P then P else c), 6, 1, nI b, sc_bm ec x true, va, vc, nI d, rc', nk, nl, n2, k1, k2, k3, nf, sk, upd en x (nI s0), fk, fn, fl, fm, iu', upd sl s0 (nI l), sc_wr sw (s0 * 8) (upd en x (nI s0)) 8, upd sm s0 (sc_bm ec x true &&& nf l), rs'), (nI F, nI L, nI D, nI N, nI S, 0, 0, nI A, nI (if c ≤ P then P else c), nI (T + 1), wt2, lc2, nI d, 1, nI n, rK, rV, Nk, nl, N2, C1, C2, C3, nf, sk, upd cl T (nI l), sc_wr ck (T * 8) (fun y => if bt (nf l) y = true then (upd yk x 2) y else 0) 8, sc_wr cv (T * 8) (fun y => if bt (nf l) y = true then (upd yv x (nI T)) y else 0) 8, mk2, wk2, rm, gk, gn, ge, gv, gp, gq, upd yk x 2, upd yv x (nI T), 32768, 32768), 6, fun post h => ?_, fun post h => ?_, Or.inr (Or.inl ⟨by decide, by decide, sc_ERk hB'⟩)⟩
    · unfold wpX_evalStep
      refine ⟨vp_in_nI (by omega) (by omega), nm_r (e' := 7) (by rw [nI_clamp (by omega)]; exact x1) (br_f (by decide) (br_f (by decide) (br_f (by decide) (br_f (by decide) (br_f (by decide) (br_f (by decide) (br_f (by decide) (br_f (by decide) (br_f (by decide) (br_t rfl ?_))))))))))⟩
      unfold wpX_evalLetrecOne
      refine KT _ ⟨vp_in_nI (by omega) (by omega), ?_⟩
      rw [nI_clamp (n := n) (by omega), ex]
      refine xw_bind hx (nI s0) true ⟨vp_in_nI (by omega) (by omega), ?_⟩
      rw [e1]
      refine xw_make h0 (by omega) ⟨vp_in_nI (by omega) (by omega), ?_⟩
      rw [e2]
      unfold wpX_evaluate
      exact KX _ h
    · unfold wpY_evalStep
      refine br_f (nI_pos (by omega)) (br_t (nI_lt hn (by omega)) ⟨vp_in_nI (by omega) (by omega), nm_r (e' := 8) (by rw [nI_clamp (by omega)]; exact x2) (br_f (by decide) (br_f (by decide) (br_f (by decide) (br_t rfl ⟨vp_in_nI (by omega) (by omega), ?_⟩))))⟩)
      rw [nI_clamp (n := n) (by omega), e3]
      refine yw_alloc (by omega) ⟨vp_in_nI (by omega) (by omega), br_t (by rw [e4]; decide) ?_⟩
      unfold wY_evalStep_168
      rw [nI_clamp (n := n) (by omega), ex, nI_clamp (n := x) (by omega)]
      refine ⟨vp_in_nI (by omega) (by omega), vp_in_nI hx (by omega), nm_e ⟨vp_in_nI (by omega) (by omega), vp_in_nI hx (by omega), nm_e (br_t (by decide) ?_)⟩⟩
      unfold wY_evalStep_222
      rw [nI_clamp (n := n) (by omega), e3, nI_clamp (n := l) (by omega)]
      refine ⟨vp_in_nI (by omega) (by omega), vp_in_nI (by omega) (by omega), yw_fill (by omega) (br_t (by decide) ?_)⟩
      unfold wY_evalStep_260
      refine yw_begin (by omega) ⟨vp_in_nI (by omega) (by omega), ?_⟩
      rw [nI_clamp (n := n) (by omega), e5, nI_clamp (n := b) (by omega)]
      refine ⟨vp_in_nI (by omega) (by omega), K1 _ (K2 _ ?_)⟩
      exact br_f (by decide) h
theorem se_let2 {x z l m b : Nat} (hB : sc_BA F L D N S A P sz nk nl n2 k1 k2 k3 nf sk Nk N2 C1 C2 C3) (hd : d ≤ 32) (hM : M = 3 * sz n + Q + 93 * (F - A)) (hT : 3 * T + M ≤ 9600) (hH : sc_HF g U N sz T d Q nk nl k2 k3 nf C2 C3 fk fn fl fm iu sl sw sm cl ck cv gk gn ge gv gp gq) (hI : sc_IU 32 iu) (hn : n < N) (hR : sc_RW g U (nf n) en ec yk yv) (x1 : nk n = 8) (x2 : Nk n = 8) (hx : x < 8) (hz8 : z < 8) (hxz : x ≠ z) (ex : nl n = nI x) (ez : n2 n = nI z) (ez' : N2 n = nI z) (hl : l < N) (hm : m < N) (hb : b < N) (hk : nk l = 2) (hkm : nk m = 2) (e1 : k1 n = nI l) (e2 : k2 n = nI m) (e6 : k3 n = nI b) (e3 : C1 n = nI l) (e4 : C2 n = nI m) (e5 : C3 n = nI b) (hz : sz n = 1 + sz l + sz m + sz b) (hzl : 1 ≤ sz l) (hzm : 1 ≤ sz m) (hfl : ∀ y, y < 8 → bt (nf l) y = true → y ≠ x → y ≠ z → bt (nf n) y = true) (hfm : ∀ y, y < 8 → bt (nf m) y = true → y ≠ x → y ≠ z → bt (nf n) y = true) (hfb : ∀ y, y < 8 → bt (nf b) y = true → y ≠ x → y ≠ z → bt (nf n) y = true) : ∃ u1 v1 r, (∀ post : SX → Prop, post u1 → wpX_evalStep post (nI F, nI L, nI D, nI N, nI S, 0, 0, nI A, nI P, -2, 1, nI n, ec, va, vc, nI d, rc, nk, nl, n2, k1, k2, k3, nf, sk, en, fk, fn, fl, fm, iu, sl, sw, sm, rs)) ∧ (∀ post : Int32 → SY → Prop, post r v1 → wpY_evalStep post (nI F, nI L, nI D, nI N, nI S, 0, 0, nI A, nI P, nI T, wt, lc, nI d, 1, nI n, rK, rV, Nk, nl, N2, C1, C2, C3, nf, sk, cl, ck, cv, mk, wk, rm, gk, gn, ge, gv, gp, gq, yk, yv, 32768, 32768)) ∧ sc_SR M r u1 v1 := by
  have hN := hB.1.2.2.2.2.1
  have hL := hB.1.2.2.1
  have hP := hB.1.2.2.2.2.2.2.2
  obtain ⟨s1, h1, hf1, KT1⟩ := xw_take (fu := nI F) (ll := nI L) (dl := nI D) (nc := nI N) (ss := nI S) (hk := 0) (hv := 0) (ca := nI A) (pk := nI P) (st := -2) (ev := 1) (cu := nI n) (ec := ec) (va := va) (vc := vc) (dp := nI d) (rc := rc) (nk := nk) (nl := nl) (n2 := n2) (k1 := k1) (k2 := k2) (k3 := k3) (nf := nf) (sk := sk) (en := en) (fk := fk) (fn := fn) (fl := fl) (fm := fm) (iu := iu) (sl := sl) (sw := sw) (sm := sm) (rs := rs) (sc_IU_f hI (by omega))
  obtain ⟨s2, h2, hf2, KT2⟩ := xw_take (fu := nI F) (ll := nI L) (dl := nI D) (nc := nI N) (ss := nI S) (hk := 0) (hv := 0) (ca := nI A) (pk := nI P) (st := -2) (ev := 1) (cu := nI n) (ec := ec) (va := va) (vc := vc) (dp := nI d) (rc := rc) (nk := nk) (nl := nl) (n2 := n2) (k1 := k1) (k2 := k2) (k3 := k3) (nf := nf) (sk := sk) (en := en) (fk := fk) (fn := fn) (fl := fl) (fm := fm) (iu := upd iu s1 1) (sl := sl) (sw := sw) (sm := sm) (rs := rs) (sc_IU_f (sc_IU_t (s0 := s1) hI) (by omega))
  have ne12 : s1 ≠ s2 := by
    intro e
    rw [← e, pk_us] at hf2
    exact absurd hf2 (by decide)
  have B1 := sc_HB_t hH.1 h1 hf1
  have m1 := sc_HB_e hH.1 hf1
  have m2 := sc_HB_e B1 hf2
  have mm : ∀ s, U s → ((U s ∨ s = s1) ∨ s = s2) ∧ (if s = s2 then T + 1 else if s = s1 then T else g s) = g s := fun s hs => ⟨(m2 s (m1 s hs).1).1, (m2 s (m1 s hs).1).2.trans (m1 s hs).2⟩
  have hv1 : sc_VR (fun s => if s = s2 then T + 1 else if s = s1 then T else g s) (fun s => (U s ∨ s = s1) ∨ s = s2) (nI s1) true 2 (nI T) := Or.inr ⟨rfl, rfl, s1, Or.inl (Or.inr rfl), rfl, by dsimp only; rw [if_neg ne12, if_pos rfl]⟩
  have hv2 : sc_VR (fun s => if s = s2 then T + 1 else if s = s1 then T else g s) (fun s => (U s ∨ s = s1) ∨ s = s2) (nI s2) true 2 (nI (T + 1)) := Or.inr ⟨rfl, rfl, s2, Or.inr rfl, rfl, by dsimp only; rw [if_pos rfl]⟩
  have hR' : ∀ j, (∀ y, y < 8 → bt (nf j) y = true → y ≠ x → y ≠ z → bt (nf n) y = true) → sc_RW (fun s => if s = s2 then T + 1 else if s = s1 then T else g s) (fun s => (U s ∨ s = s1) ∨ s = s2) (nf j) (upd (upd en x (nI s1)) z (nI s2)) (sc_bm (sc_bm ec x true) z true) (upd (upd yk x 2) z 2) (upd (upd yv x (nI T)) z (nI (T + 1))) := by
    intro j hj
    have r1 : sc_RW (fun s => if s = s2 then T + 1 else if s = s1 then T else g s) (fun s => (U s ∨ s = s1) ∨ s = s2) (nf n ||| ((1 : Int32) <<< (nI x &&& 31))) (upd en x (nI s1)) (sc_bm ec x true) (upd yk x 2) (upd yv x (nI T)) := by
      refine sc_RW_b (sc_RW_m hR mm) hv1 ?_ (fun y hy e => sc_bm_o hx hy e) (sc_bm_s hx)
      intro y hy hbb e
      rw [sc_bs hx (by omega)] at hbb
      simpa [e] using hbb
    refine sc_RW_b r1 hv2 ?_ (fun y hy e => sc_bm_o hz8 hy e) (sc_bm_s hz8)
    intro y hy hbb e
    rw [sc_bs hx (by omega)]
    by_cases exx : y = x
    · simp [exx]
    · rw [hj y hy hbb exx e]
      rfl
  have hH' := sc_new2 hH h1 hf1 h2 hf2 hl hk hm hkm (hR' l hfl) (hR' m hfm)
  obtain ⟨hS, iu', rs', rc', c, qq, mk1, wk1, lc1, wt1, mk2, wk2, lc2, wt2, a1, a2, KX, K1, K2⟩ := sj_E (F := F) (L := L) (D := D) (S := S) (A := A) (P := P) (va := va) (vc := vc) (rc := rc) (n2 := n2) (k1 := k1) (sk := sk) (rs := rs) (ev := 1) (yc := nI n) (rK := rK) (rV := rV) (Nk := Nk) (N2 := N2) (C1 := C1) (mk := mk) (wk := wk) (rm := rm) hL hN hP hd (by omega) hb hH' (hR' b hfb)
  have hA := sc_after hH' hS a1 a2
  have hB' := sc_BA_p hB a1
  by_cases hc : c ≤ L
  · rw [if_pos hc] at KX K2
    refine ⟨(nI F, nI L, nI D, nI N, nI S, 0, 0, nI A, nI (if c ≤ P then P else c), -2, 1, nI b, sc_bm (sc_bm ec x true) z true, va, vc, nI d, rc', nk, nl, n2, k1, k2, k3, nf, sk, upd (upd en x (nI s1)) z (nI s2), fk, fn, fl, fm, iu', upd (upd sl s1 (nI l)) s2 (nI m), sc_wr (sc_wr sw (s1 * 8) (upd (upd en x (nI s1)) z (nI s2)) 8) (s2 * 8) (upd (upd en x (nI s1)) z (nI s2)) 8, upd (upd sm s1 (sc_bm (sc_bm ec x true) z true &&& nf l)) s2 (sc_bm (sc_bm ec x true) z true &&& nf m), rs'), (nI F, nI L, nI D, nI N, nI S, 0, 0, nI A, nI (if c ≤ P then P else c), nI (T + 1 + 1), wt2, lc2, nI d, 1, nI b, rK, rV, Nk, nl, N2, C1, C2, C3, nf, sk, upd (upd cl T (nI l)) (T + 1) (nI m), sc_wr (sc_wr ck (T * 8) (fun y => if bt (nf l) y = true then (upd (upd yk x 2) z 2) y else 0) 8) ((T + 1) * 8) (fun y => if bt (nf m) y = true then (upd (upd yk x 2) z 2) y else 0) 8, sc_wr (sc_wr cv (T * 8) (fun y => if bt (nf l) y = true then (upd (upd yv x (nI T)) z (nI (T + 1))) y else 0) 8) ((T + 1) * 8) (fun y => if bt (nf m) y = true then (upd (upd yv x (nI T)) z (nI (T + 1))) y else 0) 8, mk2, wk2, rm, gk, gn, ge, gv, gp, gq, upd (upd yk x 2) z 2, upd (upd yv x (nI T)) z (nI (T + 1)), 32768, 32768), -2, fun post h => ?_, fun post h => ?_, Or.inl ⟨rfl, 3 * sz b + Q + 93 * (F - A), by omega, ?_⟩⟩
    · unfold wpX_evalStep
      refine ⟨vp_in_nI (by omega) (by omega), nm_r (e' := 8) (by rw [nI_clamp (by omega)]; exact x1) (br_f (by decide) (br_t (by decide) ?_))⟩
      unfold wpX_evalLetrecTwo
      refine KT1 _ (KT2 _ ⟨vp_in_nI (by omega) (by omega), ?_⟩)
      rw [nI_clamp (n := n) (by omega), ex]
      refine xw_bind hx (nI s1) true ⟨vp_in_nI (by omega) (by omega), ?_⟩
      rw [ez]
      refine xw_bind hz8 (nI s2) true ⟨vp_in_nI (by omega) (by omega), ?_⟩
      rw [e1]
      refine xw_make h1 (by omega) ⟨vp_in_nI (by omega) (by omega), ?_⟩
      rw [e2]
      refine xw_make h2 (by omega) ⟨vp_in_nI (by omega) (by omega), ?_⟩
      rw [e6]
      unfold wpX_evaluate
      exact KX _ h
    · unfold wpY_evalStep
      refine br_f (nI_pos (by omega)) (br_t (nI_lt hn (by omega)) ⟨vp_in_nI (by omega) (by omega), nm_r (e' := 8) (by rw [nI_clamp (by omega)]; exact x2) (br_f (by decide) (br_f (by decide) (br_f (by decide) (br_t rfl ⟨vp_in_nI (by omega) (by omega), ?_⟩))))⟩)
      rw [nI_clamp (n := n) (by omega), e3]
      refine yw_alloc (by omega) ⟨vp_in_nI (by omega) (by omega), br_f (by rw [e4]; exact nI_pos (by omega)) ⟨vp_in_nI (by omega) (by omega), ?_⟩⟩
      rw [e4]
      refine yw_alloc (by omega) ?_
      unfold wY_evalStep_168
      dsimp only
      rw [nI_clamp (n := n) (by omega), ex, ez', nI_clamp (n := x) (by omega), nI_clamp (n := z) (by omega)]
      refine ⟨vp_in_nI (by omega) (by omega), vp_in_nI hx (by omega), nm_e ⟨vp_in_nI (by omega) (by omega), vp_in_nI hx (by omega), nm_e (br_f (nI_pos (by omega)) ⟨vp_in_nI (by omega) (by omega), vp_in_nI hz8 (by omega), nm_e ⟨vp_in_nI (by omega) (by omega), vp_in_nI hz8 (by omega), nm_e ?_⟩⟩)⟩⟩
      unfold wY_evalStep_222
      rw [nI_clamp (n := n) (by omega), e3, nI_clamp (n := l) (by omega)]
      refine ⟨vp_in_nI (by omega) (by omega), vp_in_nI (by omega) (by omega), yw_fill (by omega) (br_f (nI_pos (by omega)) ⟨vp_in_nI (by omega) (by omega), ?_⟩)⟩
      rw [e4, nI_clamp (n := m) (by omega)]
      refine ⟨vp_in_nI (by omega) (by omega), yw_fill (by omega) ?_⟩
      unfold wY_evalStep_260
      refine yw_begin (by omega) ⟨vp_in_nI (by omega) (by omega), ?_⟩
      rw [nI_clamp (n := n) (by omega), e5, nI_clamp (n := b) (by omega)]
      refine ⟨vp_in_nI (by omega) (by omega), K1 _ (K2 _ ?_)⟩
      exact br_t rfl ⟨vp_in_nI (by omega) (by omega), nm_r (e' := nI b) e5 h⟩
    · obtain ⟨hA1, hA2⟩ := hA (by omega)
      refine sc_MRk hB' hd rfl (by omega) hA1 hA2 (Or.inl ⟨rfl, b, hb, rfl, rfl, rfl, sc_RW_r (hR' b hfb) ?_⟩)
      intro y s hy hmb hcc hs e
      exact sc_rc_r (Or.inl ⟨((sc_HF_U hH').1 s hs).1, y, hy, by rw [b_and, hcc, hmb]; rfl, e⟩)
  · rw [if_neg hc] at KX K2
    refine ⟨(nI F, nI L, nI D, nI N, nI S, 0, 0, nI A, nI (if c ≤ P then P else c), 6, 1, nI b, sc_bm (sc_bm ec x true) z true, va, vc, nI d, rc', nk, nl, n2, k1, k2, k3, nf, sk, upd (upd en x (nI s1)) z (nI s2), fk, fn, fl, fm, iu', upd (upd sl s1 (nI l)) s2 (nI m), sc_wr (sc_wr sw (s1 * 8) (upd (upd en x (nI s1)) z (nI s2)) 8) (s2 * 8) (upd (upd en x (nI s1)) z (nI s2)) 8, upd (upd sm s1 (sc_bm (sc_bm ec x true) z true &&& nf l)) s2 (sc_bm (sc_bm ec x true) z true &&& nf m), rs'), (nI F, nI L, nI D, nI N, nI S, 0, 0, nI A, nI (if c ≤ P then P else c), nI (T + 1 + 1), wt2, lc2, nI d, 1, nI n, rK, rV, Nk, nl, N2, C1, C2, C3, nf, sk, upd (upd cl T (nI l)) (T + 1) (nI m), sc_wr (sc_wr ck (T * 8) (fun y => if bt (nf l) y = true then (upd (upd yk x 2) z 2) y else 0) 8) ((T + 1) * 8) (fun y => if bt (nf m) y = true then (upd (upd yk x 2) z 2) y else 0) 8, sc_wr (sc_wr cv (T * 8) (fun y => if bt (nf l) y = true then (upd (upd yv x (nI T)) z (nI (T + 1))) y else 0) 8) ((T + 1) * 8) (fun y => if bt (nf m) y = true then (upd (upd yv x (nI T)) z (nI (T + 1))) y else 0) 8, mk2, wk2, rm, gk, gn, ge, gv, gp, gq, upd (upd yk x 2) z 2, upd (upd yv x (nI T)) z (nI (T + 1)), 32768, 32768), 6, fun post h => ?_, fun post h => ?_, Or.inr (Or.inl ⟨by decide, by decide, sc_ERk hB'⟩)⟩
    · unfold wpX_evalStep
      refine ⟨vp_in_nI (by omega) (by omega), nm_r (e' := 8) (by rw [nI_clamp (by omega)]; exact x1) (br_f (by decide) (br_t (by decide) ?_))⟩
      unfold wpX_evalLetrecTwo
      refine KT1 _ (KT2 _ ⟨vp_in_nI (by omega) (by omega), ?_⟩)
      rw [nI_clamp (n := n) (by omega), ex]
      refine xw_bind hx (nI s1) true ⟨vp_in_nI (by omega) (by omega), ?_⟩
      rw [ez]
      refine xw_bind hz8 (nI s2) true ⟨vp_in_nI (by omega) (by omega), ?_⟩
      rw [e1]
      refine xw_make h1 (by omega) ⟨vp_in_nI (by omega) (by omega), ?_⟩
      rw [e2]
      refine xw_make h2 (by omega) ⟨vp_in_nI (by omega) (by omega), ?_⟩
      rw [e6]
      unfold wpX_evaluate
      exact KX _ h
    · unfold wpY_evalStep
      refine br_f (nI_pos (by omega)) (br_t (nI_lt hn (by omega)) ⟨vp_in_nI (by omega) (by omega), nm_r (e' := 8) (by rw [nI_clamp (by omega)]; exact x2) (br_f (by decide) (br_f (by decide) (br_f (by decide) (br_t rfl ⟨vp_in_nI (by omega) (by omega), ?_⟩))))⟩)
      rw [nI_clamp (n := n) (by omega), e3]
      refine yw_alloc (by omega) ⟨vp_in_nI (by omega) (by omega), br_f (by rw [e4]; exact nI_pos (by omega)) ⟨vp_in_nI (by omega) (by omega), ?_⟩⟩
      rw [e4]
      refine yw_alloc (by omega) ?_
      unfold wY_evalStep_168
      dsimp only
      rw [nI_clamp (n := n) (by omega), ex, ez', nI_clamp (n := x) (by omega), nI_clamp (n := z) (by omega)]
      refine ⟨vp_in_nI (by omega) (by omega), vp_in_nI hx (by omega), nm_e ⟨vp_in_nI (by omega) (by omega), vp_in_nI hx (by omega), nm_e (br_f (nI_pos (by omega)) ⟨vp_in_nI (by omega) (by omega), vp_in_nI hz8 (by omega), nm_e ⟨vp_in_nI (by omega) (by omega), vp_in_nI hz8 (by omega), nm_e ?_⟩⟩)⟩⟩
      unfold wY_evalStep_222
      rw [nI_clamp (n := n) (by omega), e3, nI_clamp (n := l) (by omega)]
      refine ⟨vp_in_nI (by omega) (by omega), vp_in_nI (by omega) (by omega), yw_fill (by omega) (br_f (nI_pos (by omega)) ⟨vp_in_nI (by omega) (by omega), ?_⟩)⟩
      rw [e4, nI_clamp (n := m) (by omega)]
      refine ⟨vp_in_nI (by omega) (by omega), yw_fill (by omega) ?_⟩
      unfold wY_evalStep_260
      refine yw_begin (by omega) ⟨vp_in_nI (by omega) (by omega), ?_⟩
      rw [nI_clamp (n := n) (by omega), e5, nI_clamp (n := b) (by omega)]
      refine ⟨vp_in_nI (by omega) (by omega), K1 _ (K2 _ ?_)⟩
      exact br_f (by decide) h
end
end
section
/-! ===== the steps of RETURN, both sides ===== -/
section
variable {fu ll dl nc ss hk hv ca pk st ev cu ec va vc dp rc hK hV ct wt lc yc rK rV : Int32} {nk nl n2 k1 k2 k3 nf sk en fk fn fl fm iu sl sw sm rs Nk N2 C1 C2 C3 cl ck cv mk wk rm gk gn ge gv gp gq yk yv : Nat → Int32}
variable {F L D N S A P T d n w Q M : Nat} {sz g : Nat → Nat} {U : Nat → Prop} {c : Bool}
/-- a frame's row, loaded -/
theorem sc_row3 {m : Int32} (h : sc_RW g U m (fun y => fl (d * 8 + y)) (fm d) (fun y => ge (d * 8 + y)) (fun y => gv (d * 8 + y))) : sc_RW g U m (sc_wr en 0 (fun y => fl (d * 8 + y)) 8) (fm d) (sc_wr yk 0 (fun y => ge (d * 8 + y)) 8) (sc_wr yv 0 (fun y => gv (d * 8 + y)) 8) := sc_RW_c h (fun _ hy => sc_wr_z hy) (fun _ hy => sc_wr_z hy) (fun _ hy => sc_wr_z hy)
theorem sr_arg {b : Nat} (hB : sc_BA F L D N S A P sz nk nl n2 k1 k2 k3 nf sk Nk N2 C1 C2 C3) (hd : d < 32) (hM : M = (w + Q) + 93 * (F - A)) (hT : 3 * T + M ≤ 9600) (hb : sc_HB g U iu T) (hn : ∀ s, U s → sc_HN g U N nk nf sl sw sm cl ck cv s) (hF : sc_FS (sc_FO g U N sz nl k2 k3 nf C2 C3 fk fn fl fm gk gn ge gv gp gq) d Q) (hI : sc_IU 32 iu) (hV : sc_VR g U va c rK rV) (hnN : n < N) (f1 : fn d = nI n) (f2 : gn d = nI n) (k0 : fk d = 0) (k0' : gk d = 1) (hbN : b < N) (e2 : k2 n = nI b) (e4 : C2 n = nI b) (hw : w = 3 * sz b + 2) (hR : sc_RW g U (nf b) (fun y => fl (d * 8 + y)) (fm d) (fun y => ge (d * 8 + y)) (fun y => gv (d * 8 + y))) : ∃ u1 v1 r, (∀ post : SX → Prop, post u1 → wpX_returnStep post (nI F, nI L, nI D, nI N, nI S, 0, 0, nI A, nI P, -2, 0, cu, ec, va, sc_bi c, nI (d + 1), rc, nk, nl, n2, k1, k2, k3, nf, sk, en, fk, fn, fl, fm, iu, sl, sw, sm, rs)) ∧ (∀ post : Int32 → SY → Prop, post r v1 → wpY_returnStep post (nI F, nI L, nI D, nI N, nI S, 0, 0, nI A, nI P, nI T, wt, lc, nI (d + 1), 0, yc, rK, rV, Nk, nl, N2, C1, C2, C3, nf, sk, cl, ck, cv, mk, wk, rm, gk, gn, ge, gv, gp, gq, yk, yv, 32768, 32768)) ∧ sc_SR M r u1 v1 := by
  have hN := hB.1.2.2.2.2.1
  refine ⟨(nI F, nI L, nI D, nI N, nI S, 0, 0, nI A, nI P, -2, 1, nI b, fm d, va, sc_bi c, nI (d + 1), rc, nk, nl, n2, k1, k2, k3, nf, sk, sc_wr en 0 (fun y => fl (d * 8 + y)) 8, upd fk d 1, fn, upd fl (d * 8) va, upd fm d (sc_bi c), iu, sl, sw, sm, rs), (nI F, nI L, nI D, nI N, nI S, 0, 0, nI A, nI P, nI T, wt, lc, nI (d + 1), 1, nI b, rK, rV, Nk, nl, N2, C1, C2, C3, nf, sk, cl, ck, cv, mk, wk, rm, upd gk d 2, gn, ge, gv, upd gp d rK, upd gq d rV, sc_wr yk 0 (fun y => ge (d * 8 + y)) 8, sc_wr yv 0 (fun y => gv (d * 8 + y)) 8, 32768, 32768), -2, fun post h => ?_, fun post h => ?_, Or.inl ⟨rfl, 3 * sz b + (1 + Q) + 93 * (F - A), by omega, ?_⟩⟩
  · unfold wpX_returnStep
    refine br_t (nI_lt (a := 0) (b := d + 1) (by omega) (by omega)) (nm_r (nI_pred d) ⟨vp_in_nI (by omega) (by omega), nm_r (e' := nI n) (by rw [nI_clamp (n := d) (by omega)]; exact f1) ⟨vp_in_nI (by omega) (by omega), nm_r (e' := 0) (by rw [nI_clamp (n := d) (by omega)]; exact k0) (br_f (by decide) (br_f (by decide) (br_t rfl ?_)))⟩⟩)
    refine xw_second (by omega) hd ?_
    rw [e2]
    exact h
  · unfold wpY_returnStep
    refine br_f (nI_ne0 (by omega) (by omega)) (nm_r (nI_pred d) ⟨vp_in_nI (by omega) (by omega), nm_r (e' := 1) (by rw [nI_clamp (n := d) (by omega)]; exact k0') ⟨vp_in_nI (by omega) (by omega), nm_r (e' := nI n) (by rw [nI_clamp (n := d) (by omega)]; exact f2) (br_t rfl (br_t rfl ⟨vp_in_nI (by omega) (by omega), nm_r (e' := upd gk d 2) (by rw [nI_clamp (n := d) (by omega)]) ⟨vp_in_nI (by omega) (by omega), nm_r (e' := upd gp d rK) (by rw [nI_clamp (n := d) (by omega)]) ⟨vp_in_nI (by omega) (by omega), nm_r (e' := upd gq d rV) (by rw [nI_clamp (n := d) (by omega)]) (yw_load hd ⟨vp_in_nI (by omega) (by omega), nm_r (e' := nI b) (by rw [nI_clamp (n := n) (by omega)]; exact e4) h⟩)⟩⟩⟩))⟩⟩)
  · refine sc_MRk hB (by omega) rfl (by omega) ⟨hb, hn, 1, Q, ⟨n, hnN, f1, f2, Or.inr (Or.inl ⟨Or.inl ⟨pk_us, pk_us⟩, rfl, c, pk_us, by rw [pk_us, pk_us, pk_us]; exact hV⟩)⟩, rfl, sc_FS_m (fun i v hi h => ?_) hF⟩ hI (Or.inl ⟨rfl, b, hbN, rfl, rfl, rfl, sc_row3 hR⟩)
    have ne : i ≠ d := by omega
    exact sc_FO_c h (pk_un ne) rfl (fun y hy => pk_un (by omega)) (pk_un ne) (pk_un ne) rfl (fun _ _ => rfl) (fun _ _ => rfl) (pk_un ne) (pk_un ne)
theorem sr_left {b : Nat} (hB : sc_BA F L D N S A P sz nk nl n2 k1 k2 k3 nf sk Nk N2 C1 C2 C3) (hd : d < 32) (hM : M = (w + Q) + 93 * (F - A)) (hT : 3 * T + M ≤ 9600) (hb : sc_HB g U iu T) (hn : ∀ s, U s → sc_HN g U N nk nf sl sw sm cl ck cv s) (hF : sc_FS (sc_FO g U N sz nl k2 k3 nf C2 C3 fk fn fl fm gk gn ge gv gp gq) d Q) (hI : sc_IU 32 iu) (hV : sc_VR g U va c rK rV) (hnN : n < N) (f1 : fn d = nI n) (f2 : gn d = nI n) (k0 : fk d = 2) (k0' : gk d = 3) (hbN : b < N) (e2 : k2 n = nI b) (e4 : C2 n = nI b) (hw : w = 3 * sz b + 2) (hR : sc_RW g U (nf b) (fun y => fl (d * 8 + y)) (fm d) (fun y => ge (d * 8 + y)) (fun y => gv (d * 8 + y))) : ∃ u1 v1 r, (∀ post : SX → Prop, post u1 → wpX_returnStep post (nI F, nI L, nI D, nI N, nI S, 0, 0, nI A, nI P, -2, 0, cu, ec, va, sc_bi c, nI (d + 1), rc, nk, nl, n2, k1, k2, k3, nf, sk, en, fk, fn, fl, fm, iu, sl, sw, sm, rs)) ∧ (∀ post : Int32 → SY → Prop, post r v1 → wpY_returnStep post (nI F, nI L, nI D, nI N, nI S, 0, 0, nI A, nI P, nI T, wt, lc, nI (d + 1), 0, yc, rK, rV, Nk, nl, N2, C1, C2, C3, nf, sk, cl, ck, cv, mk, wk, rm, gk, gn, ge, gv, gp, gq, yk, yv, 32768, 32768)) ∧ sc_SR M r u1 v1 := by
  have hN := hB.1.2.2.2.2.1
  refine ⟨(nI F, nI L, nI D, nI N, nI S, 0, 0, nI A, nI P, -2, 1, nI b, fm d, va, sc_bi c, nI (d + 1), rc, nk, nl, n2, k1, k2, k3, nf, sk, sc_wr en 0 (fun y => fl (d * 8 + y)) 8, upd fk d 3, fn, upd fl (d * 8) va, upd fm d (sc_bi c), iu, sl, sw, sm, rs), (nI F, nI L, nI D, nI N, nI S, 0, 0, nI A, nI P, nI T, wt, lc, nI (d + 1), 1, nI b, rK, rV, Nk, nl, N2, C1, C2, C3, nf, sk, cl, ck, cv, mk, wk, rm, upd gk d 4, gn, ge, gv, upd gp d rK, upd gq d rV, sc_wr yk 0 (fun y => ge (d * 8 + y)) 8, sc_wr yv 0 (fun y => gv (d * 8 + y)) 8, 32768, 32768), -2, fun post h => ?_, fun post h => ?_, Or.inl ⟨rfl, 3 * sz b + (1 + Q) + 93 * (F - A), by omega, ?_⟩⟩
  · unfold wpX_returnStep
    refine br_t (nI_lt (a := 0) (b := d + 1) (by omega) (by omega)) (nm_r (nI_pred d) ⟨vp_in_nI (by omega) (by omega), nm_r (e' := nI n) (by rw [nI_clamp (n := d) (by omega)]; exact f1) ⟨vp_in_nI (by omega) (by omega), nm_r (e' := 2) (by rw [nI_clamp (n := d) (by omega)]; exact k0) (br_f (by decide) (br_f (by decide) (br_f (by decide) (br_f (by decide) (br_t rfl ?_)))))⟩⟩)
    refine xw_second (by omega) hd ?_
    rw [e2]
    exact h
  · unfold wpY_returnStep
    refine br_f (nI_ne0 (by omega) (by omega)) (nm_r (nI_pred d) ⟨vp_in_nI (by omega) (by omega), nm_r (e' := 3) (by rw [nI_clamp (n := d) (by omega)]; exact k0') ⟨vp_in_nI (by omega) (by omega), nm_r (e' := nI n) (by rw [nI_clamp (n := d) (by omega)]; exact f2) (br_f (by decide) (br_t rfl (br_f (by decide) ⟨vp_in_nI (by omega) (by omega), nm_r (e' := upd gk d 4) (by rw [nI_clamp (n := d) (by omega)]) ⟨vp_in_nI (by omega) (by omega), nm_r (e' := upd gp d rK) (by rw [nI_clamp (n := d) (by omega)]) ⟨vp_in_nI (by omega) (by omega), nm_r (e' := upd gq d rV) (by rw [nI_clamp (n := d) (by omega)]) (yw_load hd ⟨vp_in_nI (by omega) (by omega), nm_r (e' := nI b) (by rw [nI_clamp (n := n) (by omega)]; exact e4) h⟩)⟩⟩⟩)))⟩⟩)
  · refine sc_MRk hB (by omega) rfl (by omega) ⟨hb, hn, 1, Q, ⟨n, hnN, f1, f2, Or.inr (Or.inl ⟨Or.inr ⟨pk_us, pk_us⟩, rfl, c, pk_us, by rw [pk_us, pk_us, pk_us]; exact hV⟩)⟩, rfl, sc_FS_m (fun i v hi h => ?_) hF⟩ hI (Or.inl ⟨rfl, b, hbN, rfl, rfl, rfl, sc_row3 hR⟩)
    have ne : i ≠ d := by omega
    exact sc_FO_c h (pk_un ne) rfl (fun y hy => pk_un (by omega)) (pk_un ne) (pk_un ne) rfl (fun _ _ => rfl) (fun _ _ => rfl) (pk_un ne) (pk_un ne)
theorem sr_test {b e : Nat} (hB : sc_BA F L D N S A P sz nk nl n2 k1 k2 k3 nf sk Nk N2 C1 C2 C3) (hd : d < 32) (hM : M = (w + Q) + 93 * (F - A)) (hT : 3 * T + M ≤ 9600) (hb : sc_HB g U iu T) (hn : ∀ s, U s → sc_HN g U N nk nf sl sw sm cl ck cv s) (hF : sc_FS (sc_FO g U N sz nl k2 k3 nf C2 C3 fk fn fl fm gk gn ge gv gp gq) d Q) (hI : sc_IU 32 iu) (hV : sc_VR g U va c rK rV) (hnN : n < N) (f1 : fn d = nI n) (f2 : gn d = nI n) (k0 : fk d = 4) (k0' : gk d = 5) (hbN : b < N) (heN : e < N) (e2 : k2 n = nI b) (e4 : C2 n = nI b) (e3 : k3 n = nI e) (e5 : C3 n = nI e) (hw : w = 3 * (sz b + sz e) + 1) (hR : sc_RW g U (nf b ||| nf e) (fun y => fl (d * 8 + y)) (fm d) (fun y => ge (d * 8 + y)) (fun y => gv (d * 8 + y))) : ∃ u1 v1 r, (∀ post : SX → Prop, post u1 → wpX_returnStep post (nI F, nI L, nI D, nI N, nI S, 0, 0, nI A, nI P, -2, 0, cu, ec, va, sc_bi c, nI (d + 1), rc, nk, nl, n2, k1, k2, k3, nf, sk, en, fk, fn, fl, fm, iu, sl, sw, sm, rs)) ∧ (∀ post : Int32 → SY → Prop, post r v1 → wpY_returnStep post (nI F, nI L, nI D, nI N, nI S, 0, 0, nI A, nI P, nI T, wt, lc, nI (d + 1), 0, yc, rK, rV, Nk, nl, N2, C1, C2, C3, nf, sk, cl, ck, cv, mk, wk, rm, gk, gn, ge, gv, gp, gq, yk, yv, 32768, 32768)) ∧ sc_SR M r u1 v1 := by
  have hN := hB.1.2.2.2.2.1
  have hH : sc_HF g U N sz T d Q nk nl k2 k3 nf C2 C3 fk fn fl fm iu sl sw sm cl ck cv gk gn ge gv gp gq := ⟨hb, hn, hF⟩
  rcases hV with ⟨rfl, rfl, rfl⟩ | ⟨rfl, rfl, s, hs, z1, z2⟩
  · by_cases hz : rV = 0
    · refine ⟨(nI F, nI L, nI D, nI N, nI S, 0, 0, nI A, nI P, -2, 1, nI e, fm d, rV, 0, nI d, rc, nk, nl, n2, k1, k2, k3, nf, sk, sc_wr en 0 (fun y => fl (d * 8 + y)) 8, fk, fn, fl, fm, iu, sl, sw, sm, rs), (nI F, nI L, nI D, nI N, nI S, 0, 0, nI A, nI P, nI T, wt, lc, nI d, 1, nI e, 1, rV, Nk, nl, N2, C1, C2, C3, nf, sk, cl, ck, cv, mk, wk, rm, gk, gn, ge, gv, gp, gq, sc_wr yk 0 (fun y => ge (d * 8 + y)) 8, sc_wr yv 0 (fun y => gv (d * 8 + y)) 8, 32768, 32768), -2, fun post h => ?_, fun post h => ?_, Or.inl ⟨rfl, 3 * sz e + Q + 93 * (F - A), by omega, ?_⟩⟩
      · unfold wpX_returnStep
        refine br_t (nI_lt (a := 0) (b := d + 1) (by omega) (by omega)) (nm_r (nI_pred d) ⟨vp_in_nI (by omega) (by omega), nm_r (e' := nI n) (by rw [nI_clamp (n := d) (by omega)]; exact f1) ⟨vp_in_nI (by omega) (by omega), nm_r (e' := 4) (by rw [nI_clamp (n := d) (by omega)]; exact k0) (br_f (by decide) (br_f (by decide) (br_f (by decide) (br_f (by decide) (br_f (by decide) (br_f (by decide) (br_t rfl ?_)))))))⟩⟩)
        unfold wpX_returnToTest
        refine br_t rfl ⟨vp_in_nI (by omega) (by omega), ?_⟩
        rw [sc_m8, nI_clamp (n := d) (by omega)]
        refine xw_loadF (by omega) (br_t hz ⟨vp_in_nI (by omega) (by omega), ?_⟩)
        rw [nI_clamp (n := n) (by omega), e3]
        exact h
      · unfold wpY_returnStep
        refine br_f (nI_ne0 (by omega) (by omega)) (nm_r (nI_pred d) ⟨vp_in_nI (by omega) (by omega), nm_r (e' := 5) (by rw [nI_clamp (n := d) (by omega)]; exact k0') ⟨vp_in_nI (by omega) (by omega), nm_r (e' := nI n) (by rw [nI_clamp (n := d) (by omega)]; exact f2) (br_f (by decide) (br_f (by decide) (nm_r (nI_pred d) (br_f (by decide) (br_f (by decide) (br_t rfl (br_t rfl (yw_load hd (br_t hz ⟨vp_in_nI (by omega) (by omega), nm_r (e' := nI e) (by rw [nI_clamp (n := n) (by omega)]; exact e5) h⟩)))))))))⟩⟩)
      · exact sc_MRk hB (by omega) rfl (by omega) hH hI (Or.inl ⟨rfl, e, heN, rfl, rfl, rfl, sc_row3 (sc_RW_a hR (fun y hy h => by rw [b_or, h, Bool.or_true]) (fun _ _ _ => rfl))⟩)
    · refine ⟨(nI F, nI L, nI D, nI N, nI S, 0, 0, nI A, nI P, -2, 1, nI b, fm d, rV, 0, nI d, rc, nk, nl, n2, k1, k2, k3, nf, sk, sc_wr en 0 (fun y => fl (d * 8 + y)) 8, fk, fn, fl, fm, iu, sl, sw, sm, rs), (nI F, nI L, nI D, nI N, nI S, 0, 0, nI A, nI P, nI T, wt, lc, nI d, 1, nI b, 1, rV, Nk, nl, N2, C1, C2, C3, nf, sk, cl, ck, cv, mk, wk, rm, gk, gn, ge, gv, gp, gq, sc_wr yk 0 (fun y => ge (d * 8 + y)) 8, sc_wr yv 0 (fun y => gv (d * 8 + y)) 8, 32768, 32768), -2, fun post h => ?_, fun post h => ?_, Or.inl ⟨rfl, 3 * sz b + Q + 93 * (F - A), by omega, ?_⟩⟩
      · unfold wpX_returnStep
        refine br_t (nI_lt (a := 0) (b := d + 1) (by omega) (by omega)) (nm_r (nI_pred d) ⟨vp_in_nI (by omega) (by omega), nm_r (e' := nI n) (by rw [nI_clamp (n := d) (by omega)]; exact f1) ⟨vp_in_nI (by omega) (by omega), nm_r (e' := 4) (by rw [nI_clamp (n := d) (by omega)]; exact k0) (br_f (by decide) (br_f (by decide) (br_f (by decide) (br_f (by decide) (br_f (by decide) (br_f (by decide) (br_t rfl ?_)))))))⟩⟩)
        unfold wpX_returnToTest
        refine br_t rfl ⟨vp_in_nI (by omega) (by omega), ?_⟩
        rw [sc_m8, nI_clamp (n := d) (by omega)]
        refine xw_loadF (by omega) (br_f hz ⟨vp_in_nI (by omega) (by omega), ?_⟩)
        rw [nI_clamp (n := n) (by omega), e2]
        exact h
      · unfold wpY_returnStep
        refine br_f (nI_ne0 (by omega) (by omega)) (nm_r (nI_pred d) ⟨vp_in_nI (by omega) (by omega), nm_r (e' := 5) (by rw [nI_clamp (n := d) (by omega)]; exact k0') ⟨vp_in_nI (by omega) (by omega), nm_r (e' := nI n) (by rw [nI_clamp (n := d) (by omega)]; exact f2) (br_f (by decide) (br_f (by decide) (nm_r (nI_pred d) (br_f (by decide) (br_f (by decide) (br_t rfl (br_t rfl (yw_load hd (br_f hz ⟨vp_in_nI (by omega) (by omega), nm_r (e' := nI b) (by rw [nI_clamp (n := n) (by omega)]; exact e4) h⟩)))))))))⟩⟩)
      · exact sc_MRk hB (by omega) rfl (by omega) hH hI (Or.inl ⟨rfl, b, hbN, rfl, rfl, rfl, sc_row3 (sc_RW_a hR (fun y hy h => by rw [b_or, h, Bool.true_or]) (fun _ _ _ => rfl))⟩)
  · refine ⟨(nI F, nI L, nI D, nI N, nI S, 0, 0, nI A, nI P, 2, 0, cu, ec, va, 1, nI d, rc, nk, nl, n2, k1, k2, k3, nf, sk, en, fk, fn, fl, fm, iu, sl, sw, sm, rs), (nI F, nI L, nI D, nI N, nI S, 0, 0, nI A, nI P, nI T, wt, lc, nI d, 0, yc, 2, rV, Nk, nl, N2, C1, C2, C3, nf, sk, cl, ck, cv, mk, wk, rm, gk, gn, ge, gv, gp, gq, yk, yv, 32768, 32768), 2, fun post h => ?_, fun post h => ?_, Or.inr (Or.inl ⟨by decide, by decide, sc_ERk hB⟩)⟩
    · unfold wpX_returnStep
      refine br_t (nI_lt (a := 0) (b := d + 1) (by omega) (by omega)) (nm_r (nI_pred d) ⟨vp_in_nI (by omega) (by omega), nm_r (e' := nI n) (by rw [nI_clamp (n := d) (by omega)]; exact f1) ⟨vp_in_nI (by omega) (by omega), nm_r (e' := 4) (by rw [nI_clamp (n := d) (by omega)]; exact k0) (br_f (by decide) (br_f (by decide) (br_f (by decide) (br_f (by decide) (br_f (by decide) (br_f (by decide) (br_t rfl ?_)))))))⟩⟩)
      unfold wpX_returnToTest
      exact br_f (by decide) h
    · unfold wpY_returnStep
      refine br_f (nI_ne0 (by omega) (by omega)) (nm_r (nI_pred d) ⟨vp_in_nI (by omega) (by omega), nm_r (e' := 5) (by rw [nI_clamp (n := d) (by omega)]; exact k0') ⟨vp_in_nI (by omega) (by omega), nm_r (e' := nI n) (by rw [nI_clamp (n := d) (by omega)]; exact f2) (br_f (by decide) (br_f (by decide) (nm_r (nI_pred d) (br_f (by decide) (br_f (by decide) (br_t rfl (br_f (by decide) h)))))))⟩⟩)
theorem sr_bind {x b : Nat} (hB : sc_BA F L D N S A P sz nk nl n2 k1 k2 k3 nf sk Nk N2 C1 C2 C3) (hd : d < 32) (hM : M = (w + Q) + 93 * (F - A)) (hT : 3 * T + M ≤ 9600) (hb : sc_HB g U iu T) (hn : ∀ s, U s → sc_HN g U N nk nf sl sw sm cl ck cv s) (hF : sc_FS (sc_FO g U N sz nl k2 k3 nf C2 C3 fk fn fl fm gk gn ge gv gp gq) d Q) (hI : sc_IU 32 iu) (hV : sc_VR g U va c rK rV) (hnN : n < N) (f1 : fn d = nI n) (f2 : gn d = nI n) (k0 : fk d = 5) (k0' : gk d = 6) (hx : x < 8) (hbN : b < N) (ex : nl n = nI x) (e2 : k2 n = nI b) (e4 : C2 n = nI b) (hw : w = 3 * sz b + 1) (hR : sc_RW g U (nf b &&& (((1 : Int32) <<< (nI x &&& 31)) ^^^ (-1))) (fun y => fl (d * 8 + y)) (fm d) (fun y => ge (d * 8 + y)) (fun y => gv (d * 8 + y))) : ∃ u1 v1 r, (∀ post : SX → Prop, post u1 → wpX_returnStep post (nI F, nI L, nI D, nI N, nI S, 0, 0, nI A, nI P, -2, 0, cu, ec, va, sc_bi c, nI (d + 1), rc, nk, nl, n2, k1, k2, k3, nf, sk, en, fk, fn, fl, fm, iu, sl, sw, sm, rs)) ∧ (∀ post : Int32 → SY → Prop, post r v1 → wpY_returnStep post (nI F, nI L, nI D, nI N, nI S, 0, 0, nI A, nI P, nI T, wt, lc, nI (d + 1), 0, yc, rK, rV, Nk, nl, N2, C1, C2, C3, nf, sk, cl, ck, cv, mk, wk, rm, gk, gn, ge, gv, gp, gq, yk, yv, 32768, 32768)) ∧ sc_SR M r u1 v1 := by
  have hN := hB.1.2.2.2.2.1
  refine ⟨(nI F, nI L, nI D, nI N, nI S, 0, 0, nI A, nI P, -2, 1, nI b, sc_bm (fm d) x c, va, sc_bi c, nI d, rc, nk, nl, n2, k1, k2, k3, nf, sk, upd (sc_wr en 0 (fun y => fl (d * 8 + y)) 8) x va, fk, fn, fl, fm, iu, sl, sw, sm, rs), (nI F, nI L, nI D, nI N, nI S, 0, 0, nI A, nI P, nI T, wt, lc, nI d, 1, nI b, rK, rV, Nk, nl, N2, C1, C2, C3, nf, sk, cl, ck, cv, mk, wk, rm, gk, gn, ge, gv, gp, gq, upd (sc_wr yk 0 (fun y => ge (d * 8 + y)) 8) x rK, upd (sc_wr yv 0 (fun y => gv (d * 8 + y)) 8) x rV, 32768, 32768), -2, fun post h => ?_, fun post h => ?_, Or.inl ⟨rfl, 3 * sz b + Q + 93 * (F - A), by omega, ?_⟩⟩
  · unfold wpX_returnStep
    refine br_t (nI_lt (a := 0) (b := d + 1) (by omega) (by omega)) (nm_r (nI_pred d) ⟨vp_in_nI (by omega) (by omega), nm_r (e' := nI n) (by rw [nI_clamp (n := d) (by omega)]; exact f1) ⟨vp_in_nI (by omega) (by omega), nm_r (e' := 5) (by rw [nI_clamp (n := d) (by omega)]; exact k0) (br_f (by decide) (br_t (by decide) ⟨vp_in_nI (by omega) (by omega), ?_⟩))⟩⟩)
    rw [sc_m8, nI_clamp (n := d) (by omega)]
    refine xw_loadF (by omega) ⟨vp_in_nI (by omega) (by omega), ?_⟩
    rw [nI_clamp (n := n) (by omega), ex]
    refine xw_bind hx va c ⟨vp_in_nI (by omega) (by omega), ?_⟩
    rw [e2]
    exact h
  · unfold wpY_returnStep
    refine br_f (nI_ne0 (by omega) (by omega)) (nm_r (nI_pred d) ⟨vp_in_nI (by omega) (by omega), nm_r (e' := 6) (by rw [nI_clamp (n := d) (by omega)]; exact k0') ⟨vp_in_nI (by omega) (by omega), nm_r (e' := nI n) (by rw [nI_clamp (n := d) (by omega)]; exact f2) (br_f (by decide) (br_f (by decide) (nm_r (nI_pred d) (br_f (by decide) (br_f (by decide) (br_f (by decide) (yw_load hd ?_)))))))⟩⟩)
    dsimp only
    rw [nI_clamp (n := n) (by omega), ex, nI_clamp (n := x) (by omega)]
    exact ⟨vp_in_nI (by omega) (by omega), vp_in_nI hx (by omega), nm_e ⟨vp_in_nI (by omega) (by omega), vp_in_nI hx (by omega), nm_e ⟨vp_in_nI (by omega) (by omega), nm_r (e' := nI b) e4 h⟩⟩⟩
  · refine sc_MRk hB (by omega) rfl (by omega) ⟨hb, hn, hF⟩ hI (Or.inl ⟨rfl, b, hbN, rfl, rfl, rfl, sc_RW_b (sc_row3 hR) hV ?_ (fun y hy e => sc_bm_o hx hy e) (sc_bm_s hx)⟩)
    intro y hy hbb e
    rw [sc_bc hx (by omega), hbb]
    simp [e]
theorem sc_op (op a b : Int32) : ∃ r : Int32, (∀ post : Int32 → Prop, post r → wpX_operate post op a b) ∧ (∀ post : Int32 → Prop, post r → wpY_applyOp post (fu, ll, dl, nc, ss, hK, hV, ca, pk, ct, wt, lc, dp, ev, yc, rK, rV, Nk, nl, N2, C1, C2, C3, nf, sk, cl, ck, cv, mk, wk, rm, gk, gn, ge, gv, gp, gq, yk, yv, 32768, 32768) op a b) := by
  by_cases h0 : op = 0
  · subst h0
    exact ⟨a + b, fun _ h => br_f (by decide) (br_f (by decide) (br_t rfl h)), fun _ h => br_t rfl h⟩
  by_cases h1 : op = 1
  · subst h1
    exact ⟨a - b, fun _ h => br_f (by decide) (br_f (by decide) (br_f (by decide) (br_t rfl h))), fun _ h => br_f (by decide) (br_t rfl h)⟩
  by_cases h2 : op = 2
  · subst h2
    exact ⟨a * b, fun _ h => br_f (by decide) (br_f (by decide) (br_f (by decide) (br_f (by decide) (br_t rfl h)))), fun _ h => br_f (by decide) (br_f (by decide) (br_t rfl h))⟩
  by_cases h3 : op = 3
  · subst h3
    by_cases hl : b ≤ a
    · exact ⟨0, fun _ h => br_f (by decide) (br_f (by decide) (br_f (by decide) (br_f (by decide) (br_f (by decide) (br_t rfl (br_t hl h)))))), fun _ h => br_f (by decide) (br_f (by decide) (br_f (by decide) (br_t rfl (br_t hl h))))⟩
    · exact ⟨1, fun _ h => br_f (by decide) (br_f (by decide) (br_f (by decide) (br_f (by decide) (br_f (by decide) (br_t rfl (br_f hl h)))))), fun _ h => br_f (by decide) (br_f (by decide) (br_f (by decide) (br_t rfl (br_f hl h))))⟩
  have hX : ∀ (post : Int32 → Prop), ((a = b → post 1) ∧ (¬ a = b → post 0)) → wpX_operate post op a b := by
    intro post h
    by_cases hn : op < 0
    · exact br_t hn h
    · obtain ⟨j, hj, rfl⟩ := nI_of hn
      have : 3 < j := by
        apply Classical.byContradiction
        intro z
        have z : j = 0 ∨ j = 1 ∨ j = 2 ∨ j = 3 := by omega
        rcases z with rfl | rfl | rfl | rfl
        · exact h0 rfl
        · exact h1 rfl
        · exact h2 rfl
        · exact h3 rfl
      exact br_f hn (br_t (nI_lt (a := 3) (b := j) this hj) h)
  by_cases hab : a = b
  · exact ⟨1, fun _ h => hX _ (br_t hab h), fun _ h => br_f h0 (br_f h1 (br_f h2 (br_f h3 (br_t hab h))))⟩
  · exact ⟨0, fun _ h => hX _ (br_f hab h), fun _ h => br_f h0 (br_f h1 (br_f h2 (br_f h3 (br_f hab h))))⟩
theorem sr_right {c0 : Bool} (hB : sc_BA F L D N S A P sz nk nl n2 k1 k2 k3 nf sk Nk N2 C1 C2 C3) (hd : d < 32) (hM : M = (w + Q) + 93 * (F - A)) (hT : 3 * T + M ≤ 9600) (hb : sc_HB g U iu T) (hn : ∀ s, U s → sc_HN g U N nk nf sl sw sm cl ck cv s) (hF : sc_FS (sc_FO g U N sz nl k2 k3 nf C2 C3 fk fn fl fm gk gn ge gv gp gq) d Q) (hI : sc_IU 32 iu) (hV : sc_VR g U va c rK rV) (hnN : n < N) (f1 : fn d = nI n) (f2 : gn d = nI n) (k0 : fk d = 3) (k0' : gk d = 4) (hw : w = 1) (ec0 : fm d = sc_bi c0) (hL : sc_VR g U (fl (d * 8)) c0 (gp d) (gq d)) : ∃ u1 v1 r, (∀ post : SX → Prop, post u1 → wpX_returnStep post (nI F, nI L, nI D, nI N, nI S, 0, 0, nI A, nI P, -2, 0, cu, ec, va, sc_bi c, nI (d + 1), rc, nk, nl, n2, k1, k2, k3, nf, sk, en, fk, fn, fl, fm, iu, sl, sw, sm, rs)) ∧ (∀ post : Int32 → SY → Prop, post r v1 → wpY_returnStep post (nI F, nI L, nI D, nI N, nI S, 0, 0, nI A, nI P, nI T, wt, lc, nI (d + 1), 0, yc, rK, rV, Nk, nl, N2, C1, C2, C3, nf, sk, cl, ck, cv, mk, wk, rm, gk, gn, ge, gv, gp, gq, yk, yv, 32768, 32768)) ∧ sc_SR M r u1 v1 := by
  have hN := hB.1.2.2.2.2.1
  have e0 : bt (sc_bi c0) 0 = c0 := sc_bi0 c0
  rcases hL with ⟨rfl, z1, z2⟩ | ⟨rfl, z1, s0, hs0, z2, z3⟩
  · rcases hV with ⟨rfl, rfl, rfl⟩ | ⟨rfl, rfl, s, hs, y1, y2⟩
    · obtain ⟨r, hX, hY⟩ := sc_op (fu := nI F) (ll := nI L) (dl := nI D) (nc := nI N) (ss := nI S) (hK := 0) (hV := 0) (ca := nI A) (pk := nI P) (ct := nI T) (wt := wt) (lc := lc) (dp := nI d) (ev := 0) (yc := yc) (rK := 1) (rV := rV) (Nk := Nk) (nl := nl) (N2 := N2) (C1 := C1) (C2 := C2) (C3 := C3) (nf := nf) (sk := sk) (cl := cl) (ck := ck) (cv := cv) (mk := mk) (wk := wk) (rm := rm) (gk := gk) (gn := gn) (ge := ge) (gv := gv) (gp := gp) (gq := gq) (yk := yk) (yv := yv) (nl n) (fl (d * 8)) rV
      refine ⟨(nI F, nI L, nI D, nI N, nI S, 0, 0, nI A, nI P, -2, 0, cu, ec, r, 0, nI d, rc, nk, nl, n2, k1, k2, k3, nf, sk, en, fk, fn, fl, fm, iu, sl, sw, sm, rs), (nI F, nI L, nI D, nI N, nI S, 0, 0, nI A, nI P, nI T, wt, lc, nI d, 0, yc, 1, r, Nk, nl, N2, C1, C2, C3, nf, sk, cl, ck, cv, mk, wk, rm, gk, gn, ge, gv, gp, gq, yk, yv, 32768, 32768), -2, fun post h => ?_, fun post h => ?_, Or.inl ⟨rfl, 0 + Q + 93 * (F - A), by omega, ?_⟩⟩
      · unfold wpX_returnStep
        refine br_t (nI_lt (a := 0) (b := d + 1) (by omega) (by omega)) (nm_r (nI_pred d) ⟨vp_in_nI (by omega) (by omega), nm_r (e' := nI n) (by rw [nI_clamp (n := d) (by omega)]; exact f1) ⟨vp_in_nI (by omega) (by omega), nm_r (e' := 3) (by rw [nI_clamp (n := d) (by omega)]; exact k0) (br_f (by decide) (br_f (by decide) (br_f (by decide) (br_f (by decide) (br_f (by decide) (br_t rfl ⟨vp_in_nI (by omega) (by omega), ?_⟩))))))⟩⟩)
        rw [nI_clamp (n := n) (by omega)]
        unfold wpX_returnToRight
        refine ⟨vp_in_nI (by omega) (by omega), br_t (by rw [nI_clamp (n := d) (by omega)]; exact ec0) (br_t rfl ⟨pk_in (d * 8) 256 (by omega) (sc_m8 d), ?_⟩)⟩
        rw [show fl (nI d * 8).toNatClampNeg = fl (d * 8) from by rw [sc_m8, nI_clamp (by omega)]]
        exact hX _ h
      · unfold wpY_returnStep
        refine br_f (nI_ne0 (by omega) (by omega)) (nm_r (nI_pred d) ⟨vp_in_nI (by omega) (by omega), nm_r (e' := 4) (by rw [nI_clamp (n := d) (by omega)]; exact k0') ⟨vp_in_nI (by omega) (by omega), nm_r (e' := nI n) (by rw [nI_clamp (n := d) (by omega)]; exact f2) (br_f (by decide) (br_f (by decide) (nm_r (nI_pred d) (br_f (by decide) (br_t rfl (⟨vp_in_nI (by omega) (by omega), br_t (by rw [nI_clamp (n := d) (by omega)]; exact z1) (br_t rfl ⟨vp_in_nI (by omega) (by omega), vp_in_nI (by omega) (by omega), ?_⟩)⟩))))))⟩⟩)
        rw [nI_clamp (n := n) (by omega), nI_clamp (n := d) (by omega), z2]
        exact hY _ h
      · exact sc_MRk hB (by omega) rfl (by omega) ⟨hb, hn, hF⟩ hI (Or.inr ⟨rfl, rfl, false, rfl, Or.inl ⟨rfl, rfl, rfl⟩⟩)
    · refine ⟨(nI F, nI L, nI D, nI N, nI S, 0, 0, nI A, nI P, 2, 0, cu, ec, va, 1, nI d, rc, nk, nl, n2, k1, k2, k3, nf, sk, en, fk, fn, fl, fm, iu, sl, sw, sm, rs), (nI F, nI L, nI D, nI N, nI S, 0, 0, nI A, nI P, nI T, wt, lc, nI d, 0, yc, 2, rV, Nk, nl, N2, C1, C2, C3, nf, sk, cl, ck, cv, mk, wk, rm, gk, gn, ge, gv, gp, gq, yk, yv, 32768, 32768), 2, fun post h => ?_, fun post h => ?_, Or.inr (Or.inl ⟨by decide, by decide, sc_ERk hB⟩)⟩
      · unfold wpX_returnStep
        refine br_t (nI_lt (a := 0) (b := d + 1) (by omega) (by omega)) (nm_r (nI_pred d) ⟨vp_in_nI (by omega) (by omega), nm_r (e' := nI n) (by rw [nI_clamp (n := d) (by omega)]; exact f1) ⟨vp_in_nI (by omega) (by omega), nm_r (e' := 3) (by rw [nI_clamp (n := d) (by omega)]; exact k0) (br_f (by decide) (br_f (by decide) (br_f (by decide) (br_f (by decide) (br_f (by decide) (br_t rfl ⟨vp_in_nI (by omega) (by omega), ?_⟩))))))⟩⟩)
        unfold wpX_returnToRight
        exact ⟨vp_in_nI (by omega) (by omega), br_t (by rw [nI_clamp (n := d) (by omega)]; exact ec0) (br_f (by decide) h)⟩
      · unfold wpY_returnStep
        refine br_f (nI_ne0 (by omega) (by omega)) (nm_r (nI_pred d) ⟨vp_in_nI (by omega) (by omega), nm_r (e' := 4) (by rw [nI_clamp (n := d) (by omega)]; exact k0') ⟨vp_in_nI (by omega) (by omega), nm_r (e' := nI n) (by rw [nI_clamp (n := d) (by omega)]; exact f2) (br_f (by decide) (br_f (by decide) (nm_r (nI_pred d) (br_f (by decide) (br_t rfl (⟨vp_in_nI (by omega) (by omega), br_t (by rw [nI_clamp (n := d) (by omega)]; exact z1) (br_f (by decide) h)⟩))))))⟩⟩)
  · refine ⟨(nI F, nI L, nI D, nI N, nI S, 0, 0, nI A, nI P, 2, 0, cu, ec, va, sc_bi c, nI d, rc, nk, nl, n2, k1, k2, k3, nf, sk, en, fk, fn, fl, fm, iu, sl, sw, sm, rs), (nI F, nI L, nI D, nI N, nI S, 0, 0, nI A, nI P, nI T, wt, lc, nI d, 0, yc, rK, rV, Nk, nl, N2, C1, C2, C3, nf, sk, cl, ck, cv, mk, wk, rm, gk, gn, ge, gv, gp, gq, yk, yv, 32768, 32768), 2, fun post h => ?_, fun post h => ?_, Or.inr (Or.inl ⟨by decide, by decide, sc_ERk hB⟩)⟩
    · unfold wpX_returnStep
      refine br_t (nI_lt (a := 0) (b := d + 1) (by omega) (by omega)) (nm_r (nI_pred d) ⟨vp_in_nI (by omega) (by omega), nm_r (e' := nI n) (by rw [nI_clamp (n := d) (by omega)]; exact f1) ⟨vp_in_nI (by omega) (by omega), nm_r (e' := 3) (by rw [nI_clamp (n := d) (by omega)]; exact k0) (br_f (by decide) (br_f (by decide) (br_f (by decide) (br_f (by decide) (br_f (by decide) (br_t rfl ⟨vp_in_nI (by omega) (by omega), ?_⟩))))))⟩⟩)
      unfold wpX_returnToRight
      exact ⟨vp_in_nI (by omega) (by omega), br_f (by rw [nI_clamp (n := d) (by omega), ec0]; decide) h⟩
    · unfold wpY_returnStep
      refine br_f (nI_ne0 (by omega) (by omega)) (nm_r (nI_pred d) ⟨vp_in_nI (by omega) (by omega), nm_r (e' := 4) (by rw [nI_clamp (n := d) (by omega)]; exact k0') ⟨vp_in_nI (by omega) (by omega), nm_r (e' := nI n) (by rw [nI_clamp (n := d) (by omega)]; exact f2) (br_f (by decide) (br_f (by decide) (nm_r (nI_pred d) (br_f (by decide) (br_t rfl (⟨vp_in_nI (by omega) (by omega), br_f (by rw [nI_clamp (n := d) (by omega), z1]; decide) h⟩))))))⟩⟩)
/-- the call step, both sides; the machine's state ahead is what the caller pops to -/
theorem sj_call {s : Nat} {ye a1 a2 : Int32} (hB : sc_BA F L D N S A P sz nk nl n2 k1 k2 k3 nf sk Nk N2 C1 C2 C3) (hd : d ≤ 32) (hT : 3 * T + (Q + 93 * (F - A)) ≤ 9600) (hb : sc_HB g U iu T) (hn : ∀ s, U s → sc_HN g U N nk nf sl sw sm cl ck cv s) (hF : sc_FS (sc_FO g U N sz nl k2 k3 nf C2 C3 fk fn fl fm gk gn ge gv gp gq) d Q) (hI : sc_IU 32 iu) (hV : sc_VR g U va c a1 a2) (hs : U s) : ∃ u1 v1 r, (∀ post : SX → Prop, post u1 → wpX_callStep post (nI F, nI L, nI D, nI N, nI S, 0, 0, nI A, nI P, -2, 0, cu, ec, va, sc_bi c, nI d, rc, nk, nl, n2, k1, k2, k3, nf, sk, en, fk, fn, fl, fm, iu, sl, sw, sm, rs) (nI s)) ∧ (∀ post : Int32 → SY → Prop, post r v1 → wpY_callStep post (nI F, nI L, nI D, nI N, nI S, 0, 0, nI A, nI P, nI T, wt, lc, nI d, ye, yc, rK, rV, Nk, nl, N2, C1, C2, C3, nf, sk, cl, ck, cv, mk, wk, rm, gk, gn, ge, gv, gp, gq, yk, yv, 32768, 32768) (nI (g s)) a1 a2) ∧ sc_SR (1 + Q + 93 * (F - A)) r u1 v1 := by
  have hN := hB.1.2.2.2.2.1
  have hF1 := hB.1.2.1
  have hAF := hB.1.2.2.2.2.2.2.1
  obtain ⟨h34, _, hgT⟩ := hb.1 s hs
  by_cases hA : A < F
  · obtain ⟨l, l1, l2, l3, l4, l5, l6, l7⟩ := hn s hs
    obtain ⟨⟨z1, z32⟩, hnd⟩ := hB.2.1 l l1
    have hlam : ∃ x b, x < 8 ∧ b < l ∧ nl l = nI x ∧ k1 l = nI b ∧ C1 l = nI b ∧ sz l = 1 + sz b ∧ ∀ y, y < 8 → bt (nf b) y = true → y ≠ x → bt (nf l) y = true := by
      rw [l2] at hnd
      rcases hnd with h | h | h | h | h | h | h | h
      · exact absurd h.1 (by decide)
      · exact absurd h.1 (by decide)
      · exact h.2.2
      · rcases h.1 with h | h <;> exact absurd h.1 (by decide)
      · exact absurd h.1 (by decide)
      · exact absurd h.1 (by decide)
      · exact absurd h.1 (by decide)
      · exact absurd h.1 (by decide)
    obtain ⟨x, b, hx, hbl, ex, e1, e2, hz, hf⟩ := hlam
    refine ⟨(nI F, nI L, nI D, nI N, nI S, 0, 0, nI (A + 1), nI P, -2, 1, k1 l, sc_bm (sm s) x c, va, sc_bi c, nI d, rc, nk, nl, n2, k1, k2, k3, nf, sk, upd (sc_wr en 0 (fun y => sw (s * 8 + y)) 8) x va, fk, fn, fl, fm, iu, sl, sw, sm, rs), (nI F, nI L, nI D, nI N, nI S, 0, 0, nI (A + 1), nI P, nI T, wt, lc, nI d, 1, C1 l, rK, rV, Nk, nl, N2, C1, C2, C3, nf, sk, cl, ck, cv, mk, wk, rm, gk, gn, ge, gv, gp, gq, upd (sc_wr yk 0 (fun y => ck (g s * 8 + y)) 8) x a1, upd (sc_wr yv 0 (fun y => cv (g s * 8 + y)) 8) x a2, 32768, 32768), -2, fun post h => xw_call h34 (by omega) hx l3 ex hA (by omega) h, fun post h => yw_call (by omega) (by omega) hx l4 ex hA (by omega) h, Or.inl ⟨rfl, 3 * sz b + Q + 93 * (F - (A + 1)), by omega, ?_⟩⟩
    rw [e1, e2]
    obtain ⟨⟨b1, b2, b3, b4, b5, b6, b7, b8⟩, hB2⟩ := hB
    exact sc_MRk (A := A + 1) ⟨⟨b1, b2, b3, b4, b5, b6, by omega, b8⟩, hB2⟩ hd rfl (by omega) ⟨hb, hn, hF⟩ hI (Or.inl ⟨rfl, b, by omega, rfl, rfl, rfl, sc_RW_b (sc_RW_c l5 (fun _ hy => sc_wr_z hy) (fun _ hy => sc_wr_z hy) (fun _ hy => sc_wr_z hy)) hV hf (fun y hy e => sc_bm_o hx hy e) (sc_bm_s hx)⟩)
  · have hAF' : F = A := by omega
    subst hAF'
    refine ⟨(nI F, nI L, nI D, nI N, nI S, 0, 0, nI F, nI P, 4, 0, cu, ec, va, sc_bi c, nI d, rc, nk, nl, n2, k1, k2, k3, nf, sk, en, fk, fn, fl, fm, iu, sl, sw, sm, rs), (nI F, nI L, nI D, nI N, nI S, 0, 0, nI F, nI P, nI T, wt, lc, nI d, ye, yc, rK, rV, Nk, nl, N2, C1, C2, C3, nf, sk, cl, ck, cv, mk, wk, rm, gk, gn, ge, gv, gp, gq, yk, yv, 32768, 32768), 4, fun post h => xw_nofuel (by omega) h, fun post h => ?_, Or.inr (Or.inl ⟨by decide, by decide, sc_ERk hB⟩)⟩
    unfold wpY_callStep
    exact br_t rfl h
theorem sr_call {c0 : Bool} (hB : sc_BA F L D N S A P sz nk nl n2 k1 k2 k3 nf sk Nk N2 C1 C2 C3) (hd : d < 32) (hM : M = (w + Q) + 93 * (F - A)) (hT : 3 * T + M ≤ 9600) (hb : sc_HB g U iu T) (hn : ∀ s, U s → sc_HN g U N nk nf sl sw sm cl ck cv s) (hF : sc_FS (sc_FO g U N sz nl k2 k3 nf C2 C3 fk fn fl fm gk gn ge gv gp gq) d Q) (hI : sc_IU 32 iu) (hV : sc_VR g U va c rK rV) (hnN : n < N) (f1 : fn d = nI n) (f2 : gn d = nI n) (k0 : fk d = 1) (k0' : gk d = 2) (hw : w = 1) (ec0 : fm d = sc_bi c0) (hL : sc_VR g U (fl (d * 8)) c0 (gp d) (gq d)) : ∃ u1 v1 r, (∀ post : SX → Prop, post u1 → wpX_returnStep post (nI F, nI L, nI D, nI N, nI S, 0, 0, nI A, nI P, -2, 0, cu, ec, va, sc_bi c, nI (d + 1), rc, nk, nl, n2, k1, k2, k3, nf, sk, en, fk, fn, fl, fm, iu, sl, sw, sm, rs)) ∧ (∀ post : Int32 → SY → Prop, post r v1 → wpY_returnStep post (nI F, nI L, nI D, nI N, nI S, 0, 0, nI A, nI P, nI T, wt, lc, nI (d + 1), 0, yc, rK, rV, Nk, nl, N2, C1, C2, C3, nf, sk, cl, ck, cv, mk, wk, rm, gk, gn, ge, gv, gp, gq, yk, yv, 32768, 32768)) ∧ sc_SR M r u1 v1 := by
  have hN := hB.1.2.2.2.2.1
  rcases hL with ⟨rfl, z1, z2⟩ | ⟨rfl, z1, s0, hs0, z2, z3⟩
  · refine ⟨(nI F, nI L, nI D, nI N, nI S, 0, 0, nI A, nI P, 3, 0, cu, ec, va, sc_bi c, nI d, rc, nk, nl, n2, k1, k2, k3, nf, sk, en, fk, fn, fl, fm, iu, sl, sw, sm, rs), (nI F, nI L, nI D, nI N, nI S, 0, 0, nI A, nI P, nI T, wt, lc, nI d, 0, yc, rK, rV, Nk, nl, N2, C1, C2, C3, nf, sk, cl, ck, cv, mk, wk, rm, gk, gn, ge, gv, gp, gq, yk, yv, 32768, 32768), 3, fun post h => ?_, fun post h => ?_, Or.inr (Or.inl ⟨by decide, by decide, sc_ERk hB⟩)⟩
    · unfold wpX_returnStep
      refine br_t (nI_lt (a := 0) (b := d + 1) (by omega) (by omega)) (nm_r (nI_pred d) ⟨vp_in_nI (by omega) (by omega), nm_r (e' := nI n) (by rw [nI_clamp (n := d) (by omega)]; exact f1) ⟨vp_in_nI (by omega) (by omega), nm_r (e' := 1) (by rw [nI_clamp (n := d) (by omega)]; exact k0) (br_f (by decide) (br_f (by decide) (br_f (by decide) (br_t rfl ?_))))⟩⟩)
      unfold wpX_returnToCall
      exact ⟨vp_in_nI (by omega) (by omega), br_t (by rw [nI_clamp (n := d) (by omega)]; exact ec0) h⟩
    · unfold wpY_returnStep
      refine br_f (nI_ne0 (by omega) (by omega)) (nm_r (nI_pred d) ⟨vp_in_nI (by omega) (by omega), nm_r (e' := 2) (by rw [nI_clamp (n := d) (by omega)]; exact k0') ⟨vp_in_nI (by omega) (by omega), nm_r (e' := nI n) (by rw [nI_clamp (n := d) (by omega)]; exact f2) (br_f (by decide) (br_f (by decide) (nm_r (nI_pred d) (br_t rfl (⟨vp_in_nI (by omega) (by omega), br_f (by rw [nI_clamp (n := d) (by omega), z1]; decide) h⟩)))))⟩⟩)
  · obtain ⟨u1, v1, r, KX, KY, hS⟩ := sj_call (ye := 0) (rK := rK) (rV := rV) (rc := rc) (cu := cu) (ec := ec) (rs := rs) (en := en) (wt := wt) (lc := lc) (yc := yc) (mk := mk) (wk := wk) (rm := rm) (yk := yk) (yv := yv) hB (by omega) (by omega) hb hn hF hI hV hs0
    refine ⟨u1, v1, r, fun post h => ?_, fun post h => ?_, ?_⟩
    · obtain ⟨_, _, _, _, _, _, _, _, _, _, _, _, _, _, _, _, _, _, _, _, _, _, _, _, _, _, _, _, _, _, _, _, _, _, _⟩ := u1
      unfold wpX_returnStep
      refine br_t (nI_lt (a := 0) (b := d + 1) (by omega) (by omega)) (nm_r (nI_pred d) ⟨vp_in_nI (by omega) (by omega), nm_r (e' := nI n) (by rw [nI_clamp (n := d) (by omega)]; exact f1) ⟨vp_in_nI (by omega) (by omega), nm_r (e' := 1) (by rw [nI_clamp (n := d) (by omega)]; exact k0) (br_f (by decide) (br_f (by decide) (br_f (by decide) (br_t rfl ?_))))⟩⟩)
      unfold wpX_returnToCall
      refine ⟨vp_in_nI (by omega) (by omega), br_f (by rw [nI_clamp (n := d) (by omega), ec0]; decide) ⟨pk_in (d * 8) 256 (by omega) (sc_m8 d), ?_⟩⟩
      rw [show fl (nI d * 8).toNatClampNeg = nI s0 from by rw [sc_m8, nI_clamp (by omega)]; exact z2]
      exact KX _ h
    · obtain ⟨_, _, _, _, _, _, _, _, _, _, _, _, _, _, _, _, _, _, _, _, _, _, _, _, _, _, _, _, _, _, _, _, _, _, _, _, _, _, _, _, _⟩ := v1
      unfold wpY_returnStep
      refine br_f (nI_ne0 (by omega) (by omega)) (nm_r (nI_pred d) ⟨vp_in_nI (by omega) (by omega), nm_r (e' := 2) (by rw [nI_clamp (n := d) (by omega)]; exact k0') ⟨vp_in_nI (by omega) (by omega), nm_r (e' := nI n) (by rw [nI_clamp (n := d) (by omega)]; exact f2) (br_f (by decide) (br_f (by decide) (nm_r (nI_pred d) (br_t rfl (⟨vp_in_nI (by omega) (by omega), br_t (by rw [nI_clamp (n := d) (by omega)]; exact z1) ⟨vp_in_nI (by omega) (by omega), ?_⟩⟩)))))⟩⟩)
      rw [nI_clamp (n := d) (by omega), z3]
      exact KY _ h
    · rw [hM, hw]
      exact hS
end
end
section
/-! ===== the machine's loop, both sides in step ===== -/
/-- what is held between two calls -/
def sc_HD (N : Nat) (hk hv hK hV ct : Int32) (nk nf iu sl sw sm cl ck cv : Nat → Int32) : Prop := (hk = 0 ∧ hv = 0 ∧ hK = 0 ∧ hV = 0) ∨ (hk = 1 ∧ hK = 1 ∧ hV = hv) ∨ (hk = 2 ∧ hK = 2 ∧ ∃ (s : Nat) (g : Nat → Nat) (U : Nat → Prop) (T : Nat), ct = nI T ∧ T ≤ 4096 ∧ sc_HB g U iu T ∧ (∀ s, U s → sc_HN g U N nk nf sl sw sm cl ck cv s) ∧ sc_IU 32 iu ∧ U s ∧ hv = nI s ∧ hV = nI (g s))
/-- the relation between two calls -/
def sc_RL (u : SX) (v : SY) : Prop := ∃ (fu ll dl nc ss hk hv ca pk st ev cu ec va vc dp rc hK hV ct wt lc yc rK rV : Int32) (nk nl n2 k1 k2 k3 nf sk en fk fn fl fm iu sl sw sm rs Nk N2 C1 C2 C3 cl ck cv mk wk rm gk gn ge gv gp gq yk yv : Nat → Int32) (sp ye : Int32), u = (fu, ll, dl, nc, ss, hk, hv, ca, pk, st, ev, cu, ec, va, vc, dp, rc, nk, nl, n2, k1, k2, k3, nf, sk, en, fk, fn, fl, fm, iu, sl, sw, sm, rs) ∧ v = (fu, ll, dl, nc, ss, hK, hV, ca, pk, ct, wt, lc, sp, ye, yc, rK, rV, Nk, nl, N2, C1, C2, C3, nf, sk, cl, ck, cv, mk, wk, rm, gk, gn, ge, gv, gp, gq, yk, yv, 32768, 32768) ∧ ∃ F L D N S A P sz, (fu = nI F ∧ ll = nI L ∧ dl = nI D ∧ nc = nI N ∧ ss = nI S ∧ ca = nI A ∧ pk = nI P) ∧ sc_BA F L D N S A P sz nk nl n2 k1 k2 k3 nf sk Nk N2 C1 C2 C3 ∧ sc_HD N hk hv hK hV ct nk nf iu sl sw sm cl ck cv
def sc_lX (post : Int32 → SX → Prop) (n : Nat) (i : Int32) (u : SX) : Prop := match u with
  | (fu, ll, dl, nc, ss, hk, hv, ca, pk, st, ev, cu, ec, va, vc, dp, rc, nk, nl, n2, k1, k2, k3, nf, sk, en, fk, fn, fl, fm, iu, sl, sw, sm, rs) => wX_finishMachine_2 post n i fu ll dl nc ss hk hv ca pk st ev cu ec va vc dp rc nk nl n2 k1 k2 k3 nf sk en fk fn fl fm iu sl sw sm rs
def sc_lY (post : Int32 → SY → Prop) (n : Nat) (i : Int32) (v : SY) : Prop := match v with
  | (e1, e2, e3, e4, e5, e6, e7, e8, e9, e10, e11, e12, e13, e14, e15, e16, e17, r1, r2, r3, r4, r5, r6, r7, r8, r9, r10, r11, r12, r13, r14, r15, r16, r17, r18, r19, r20, r21, r22, nK, nV) => wY_machine_2 post n i e1 e2 e3 e4 e5 e6 e7 e8 e9 e10 e11 e12 e13 e14 e15 e16 e17 r1 r2 r3 r4 r5 r6 r7 r8 r9 r10 r11 r12 r13 r14 r15 r16 r17 r18 r19 r20 r21 r22 nK nV
section
variable {fu ll dl nc ss hk hv ca pk st ev cu ec va vc dp rc hK hV ct wt lc yc rK rV : Int32} {nk nl n2 k1 k2 k3 nf sk en fk fn fl fm iu sl sw sm rs Nk N2 C1 C2 C3 cl ck cv mk wk rm gk gn ge gv gp gq yk yv : Nat → Int32}
variable {F L D N S A P T d n q Q M : Nat} {sz g : Nat → Nat} {U : Nat → Prop}
theorem sm_eval (hB : sc_BA F L D N S A P sz nk nl n2 k1 k2 k3 nf sk Nk N2 C1 C2 C3) (hd : d ≤ 32) (hM : M = 3 * sz n + Q + 93 * (F - A)) (hT : 3 * T + M ≤ 9600) (hH : sc_HF g U N sz T d Q nk nl k2 k3 nf C2 C3 fk fn fl fm iu sl sw sm cl ck cv gk gn ge gv gp gq) (hI : sc_IU 32 iu) (hn : n < N) (hR : sc_RW g U (nf n) en ec yk yv) : ∃ u1 v1 r, (∀ post : SX → Prop, post u1 → wpX_evalStep post (nI F, nI L, nI D, nI N, nI S, 0, 0, nI A, nI P, -2, 1, nI n, ec, va, vc, nI d, rc, nk, nl, n2, k1, k2, k3, nf, sk, en, fk, fn, fl, fm, iu, sl, sw, sm, rs)) ∧ (∀ post : Int32 → SY → Prop, post r v1 → wpY_evalStep post (nI F, nI L, nI D, nI N, nI S, 0, 0, nI A, nI P, nI T, wt, lc, nI d, 1, nI n, rK, rV, Nk, nl, N2, C1, C2, C3, nf, sk, cl, ck, cv, mk, wk, rm, gk, gn, ge, gv, gp, gq, yk, yv, 32768, 32768)) ∧ sc_SR M r u1 v1 := by
  obtain ⟨_, hnd⟩ := hB.2.1 n hn
  rcases hnd with ⟨x1, x2⟩ | ⟨x1, x2, x, hx, ex, hf⟩ | ⟨x1, x2, _⟩ | ⟨x12, a, b, ha, hb, e1, e2, e3, e4, hz, hfa, hfb⟩ | ⟨x1, x2, a, b, e, ha, hb, he, e1, e2, e5, e3, e4, e6, hz, hfa, hfb, hfe⟩ | ⟨x1, x2, x, a, b, hx, ha, hb, ex, e1, e2, e3, e4, hz, hfa, hfb⟩ | ⟨x1, x2, x, l, b, hx, hl, hb, ex, hk, e1, e2, e3, e4, e5, hz, hfl, hfb⟩ | ⟨x1, x2, x, z, l, m, b, hx, hz8, hxz, hl, hm, hb, ex, ez, ez', hk, hkm, e1, e2, e6, e3, e4, e5, hz, hfl, hfm, hfb⟩
  · exact se_num hB hd hM hT hH hI hn x1 x2
  · exact se_var hB hd hM hT hH hI hn hR x1 x2 hx ex hf
  · exact se_lam hB hd hM hT hH hI hn hR x1 x2
  · rcases x12 with ⟨x1, x2⟩ | ⟨x1, x2⟩
    · exact se_app hB hd hM hT hH hI hn hR x1 x2 (by omega) (by omega) e1 e2 e3 e4 hz hfa hfb
    · exact se_prim hB hd hM hT hH hI hn hR x1 x2 (by omega) (by omega) e1 e2 e3 e4 hz hfa hfb
  · refine se_if hB hd hM hT hH hI hn hR x1 x2 (by omega) (by omega) (by omega) e1 e2 e5 e3 e4 e6 hz hfa ?_
    intro y hy h
    rw [b_or] at h
    rcases Bool.or_eq_true_iff.mp h with h | h
    · exact hfb y hy h
    · exact hfe y hy h
  · refine se_let hB hd hM hT hH hI hn hR x1 x2 hx ex (by omega) (by omega) e1 e2 e3 e4 hz hfa ?_
    intro y hy h
    rw [sc_bc hx (by omega)] at h
    obtain ⟨h1, h2⟩ := Bool.and_eq_true_iff.mp h
    exact hfb y hy h1 (by intro e; rw [e] at h2; simp at h2)
  · exact se_let1 hB hd hM hT hH hI hn hR x1 x2 hx ex (by omega) (by omega) hk e1 e2 e3 e4 e5 hz (hB.2.1 l (by omega)).1.1 hfl hfb
  · exact se_let2 hB hd hM hT hH hI hn hR x1 x2 hx hz8 hxz ex ez ez' (by omega) (by omega) (by omega) hk hkm e1 e2 e6 e3 e4 e5 hz (hB.2.1 l (by omega)).1.1 (hB.2.1 m (by omega)).1.1 hfl hfm hfb
theorem sm_ret {c : Bool} (hB : sc_BA F L D N S A P sz nk nl n2 k1 k2 k3 nf sk Nk N2 C1 C2 C3) (hd : d ≤ 32) (hM : M = 0 + Q + 93 * (F - A)) (hT : 3 * T + M ≤ 9600) (hH : sc_HF g U N sz T d Q nk nl k2 k3 nf C2 C3 fk fn fl fm iu sl sw sm cl ck cv gk gn ge gv gp gq) (hI : sc_IU 32 iu) (hV : sc_VR g U va c rK rV) : ∃ u1 v1 r, (∀ post : SX → Prop, post u1 → wpX_returnStep post (nI F, nI L, nI D, nI N, nI S, 0, 0, nI A, nI P, -2, 0, cu, ec, va, sc_bi c, nI d, rc, nk, nl, n2, k1, k2, k3, nf, sk, en, fk, fn, fl, fm, iu, sl, sw, sm, rs)) ∧ (∀ post : Int32 → SY → Prop, post r v1 → wpY_returnStep post (nI F, nI L, nI D, nI N, nI S, 0, 0, nI A, nI P, nI T, wt, lc, nI d, 0, yc, rK, rV, Nk, nl, N2, C1, C2, C3, nf, sk, cl, ck, cv, mk, wk, rm, gk, gn, ge, gv, gp, gq, yk, yv, 32768, 32768)) ∧ sc_SR M r u1 v1 := by
  cases d with
  | zero =>
    refine ⟨(nI F, nI L, nI D, nI N, nI S, 0, 0, nI A, nI P, 0, 0, cu, ec, va, sc_bi c, nI 0, rc, nk, nl, n2, k1, k2, k3, nf, sk, en, fk, fn, fl, fm, iu, sl, sw, sm, rs), (nI F, nI L, nI D, nI N, nI S, rK, rV, nI A, nI P, nI T, wt, lc, nI 0, 0, yc, rK, rV, Nk, nl, N2, C1, C2, C3, nf, sk, cl, ck, cv, mk, wk, rm, gk, gn, ge, gv, gp, gq, yk, yv, 32768, 32768), 0, fun post h => ?_, fun post h => ?_, Or.inr (Or.inr ⟨rfl, ?_⟩)⟩
    · unfold wpX_returnStep
      exact br_f (nI_nlt (a := 0) (b := 0) (by omega) (by omega)) h
    · unfold wpY_returnStep
      exact br_t rfl h
    · exact ⟨_, _, _, _, _, 0, 0, _, _, 0, _, _, _, _, _, _, _, 0, 0, _, _, _, _, _, _, _, _, _, _, _, _, _, _, _, _, _, _, _, _, _, _, _, _, _, _, _, _, _, _, _, _, _, _, _, _, _, _, _, _, _, _, _, rfl, rfl, F, L, D, N, S, A, P, sz, g, U, T, c, ⟨rfl, rfl, rfl, rfl, rfl, rfl, rfl, rfl⟩, hB, by omega, hH.1, hH.2.1, hI, rfl, hV⟩
  | succ d =>
    obtain ⟨hb, hn, w, q, ⟨n, hnN, f1, f2, hk⟩, hQ, hF⟩ := hH
    subst hQ
    have hM' : M = (w + q) + 93 * (F - A) := by omega
    rcases hk with ⟨k, b, a1, a2, a3, a4, a5, a6⟩ | ⟨k, a1, c0, a2, a3⟩ | ⟨k1, k2, b, e, a1, a2, a3, a4, a5, a6, a7, a8, a9⟩ | ⟨k1, k2, x, b, a1, a2, a3, a4, a5, a6, a7, a8⟩
    · rcases k with ⟨k1, k2⟩ | ⟨k1, k2⟩
      · exact sr_arg hB (by omega) hM' hT hb hn hF hI hV hnN f1 f2 k1 k2 a1 a2 a3 a4 a5
      · exact sr_left hB (by omega) hM' hT hb hn hF hI hV hnN f1 f2 k1 k2 a1 a2 a3 a4 a5
    · rcases k with ⟨k1, k2⟩ | ⟨k1, k2⟩
      · exact sr_call hB (by omega) hM' hT hb hn hF hI hV hnN f1 f2 k1 k2 a1 a2 a3
      · exact sr_right hB (by omega) hM' hT hb hn hF hI hV hnN f1 f2 k1 k2 a1 a2 a3
    · exact sr_test hB (by omega) hM' hT hb hn hF hI hV hnN f1 f2 k1 k2 a1 a2 a3 a4 a5 a6 a7 a8
    · exact sr_bind hB (by omega) hM' hT hb hn hF hI hV hnN f1 f2 k1 k2 a1 a2 a3 a4 a5 a6 a7
end
end
section
section
variable {fu ll dl nc ss hk hv ca pk st ev cu ec va vc dp rc hK hV ct wt lc yc rK rV : Int32} {nk nl n2 k1 k2 k3 nf sk en fk fn fl fm iu sl sw sm rs Nk N2 C1 C2 C3 cl ck cv mk wk rm gk gn ge gv gp gq yk yv : Nat → Int32}
variable {sp ye : Int32} {F L D N S A P T d n q Q M : Nat} {sz g : Nat → Nat} {U : Nat → Prop}
theorem sc_RLk (hB : sc_BA F L D N S A P sz nk nl n2 k1 k2 k3 nf sk Nk N2 C1 C2 C3) (hD : sc_HD N hk hv hK hV ct nk nf iu sl sw sm cl ck cv) : sc_RL (nI F, nI L, nI D, nI N, nI S, hk, hv, nI A, nI P, st, ev, cu, ec, va, vc, dp, rc, nk, nl, n2, k1, k2, k3, nf, sk, en, fk, fn, fl, fm, iu, sl, sw, sm, rs) (nI F, nI L, nI D, nI N, nI S, hK, hV, nI A, nI P, ct, wt, lc, sp, ye, yc, rK, rV, Nk, nl, N2, C1, C2, C3, nf, sk, cl, ck, cv, mk, wk, rm, gk, gn, ge, gv, gp, gq, yk, yv, 32768, 32768) := by
  unfold sc_RL
  exact ⟨_, _, _, _, _, _, _, _, _, _, _, _, _, _, _, _, _, _, _, _, _, _, _, _, _, _, _, _, _, _, _, _, _, _, _, _, _, _, _, _, _, _, _, _, _, _, _, _, _, _, _, _, _, _, _, _, _, _, _, _, _, _, _, _, rfl, rfl, F, L, D, N, S, A, P, sz, ⟨rfl, rfl, rfl, rfl, rfl, rfl, rfl⟩, hB, hD⟩
theorem sm_stepE (hB : sc_BA F L D N S A P sz nk nl n2 k1 k2 k3 nf sk Nk N2 C1 C2 C3) (hd : d ≤ 32) (hM : M = 3 * sz n + Q + 93 * (F - A)) (hT : 3 * T + M ≤ 9600) (hH : sc_HF g U N sz T d Q nk nl k2 k3 nf C2 C3 fk fn fl fm iu sl sw sm cl ck cv gk gn ge gv gp gq) (hI : sc_IU 32 iu) (hn : n < N) (hR : sc_RW g U (nf n) en ec yk yv) : ∃ u1 v1 r, (∀ (post : Int32 → SX → Prop) n' i, i < 1000000 → sc_lX post n' (nI (i + 1)) u1 → sc_lX post (n' + 1) (nI i) (nI F, nI L, nI D, nI N, nI S, 0, 0, nI A, nI P, -2, 1, nI n, ec, va, vc, nI d, rc, nk, nl, n2, k1, k2, k3, nf, sk, en, fk, fn, fl, fm, iu, sl, sw, sm, rs)) ∧ (∀ (post : Int32 → SY → Prop) n' i, i < 100000 → (r = -2 → sc_lY post n' (nI (i + 1)) v1) → (¬ r = -2 → post r v1) → sc_lY post (n' + 1) (nI i) (nI F, nI L, nI D, nI N, nI S, 0, 0, nI A, nI P, nI T, wt, lc, nI d, 1, nI n, rK, rV, Nk, nl, N2, C1, C2, C3, nf, sk, cl, ck, cv, mk, wk, rm, gk, gn, ge, gv, gp, gq, yk, yv, 32768, 32768)) ∧ sc_SR M r u1 v1 := by
  obtain ⟨u1, v1, r, KX, KY, hS⟩ := sm_eval (rc := rc) (rs := rs) (va := va) (vc := vc) (wt := wt) (lc := lc) (rK := rK) (rV := rV) (mk := mk) (wk := wk) (rm := rm) hB hd hM hT hH hI hn hR
  refine ⟨u1, v1, r, fun post m i hi h => ?_, fun post m i hi h1 h2 => ?_, hS⟩
  · obtain ⟨_, _, _, _, _, _, _, _, _, _, _, _, _, _, _, _, _, _, _, _, _, _, _, _, _, _, _, _, _, _, _, _, _, _, _⟩ := u1
    exact br_f (nI_ge (a := i) (b := 1000000) hi (by omega)) (br_t rfl (br_f (by decide) (KX _ (nm_r (nI_1 i) h))))
  · obtain ⟨_, _, _, _, _, _, _, _, _, _, _, _, _, _, _, _, _, _, _, _, _, _, _, _, _, _, _, _, _, _, _, _, _, _, _, _, _, _, _, _, _⟩ := v1
    exact br_f (nI_ge (a := i) (b := 100000) hi (by omega)) (br_f (by decide) (KY _ (br_c (fun z => nm_r (nI_1 i) (h1 z)) h2)))
theorem sm_stepR {c : Bool} (hB : sc_BA F L D N S A P sz nk nl n2 k1 k2 k3 nf sk Nk N2 C1 C2 C3) (hd : d ≤ 32) (hM : M = 0 + Q + 93 * (F - A)) (hT : 3 * T + M ≤ 9600) (hH : sc_HF g U N sz T d Q nk nl k2 k3 nf C2 C3 fk fn fl fm iu sl sw sm cl ck cv gk gn ge gv gp gq) (hI : sc_IU 32 iu) (hV : sc_VR g U va c rK rV) : ∃ u1 v1 r, (∀ (post : Int32 → SX → Prop) n' i, i < 1000000 → sc_lX post n' (nI (i + 1)) u1 → sc_lX post (n' + 1) (nI i) (nI F, nI L, nI D, nI N, nI S, 0, 0, nI A, nI P, -2, 0, cu, ec, va, sc_bi c, nI d, rc, nk, nl, n2, k1, k2, k3, nf, sk, en, fk, fn, fl, fm, iu, sl, sw, sm, rs)) ∧ (∀ (post : Int32 → SY → Prop) n' i, i < 100000 → (r = -2 → sc_lY post n' (nI (i + 1)) v1) → (¬ r = -2 → post r v1) → sc_lY post (n' + 1) (nI i) (nI F, nI L, nI D, nI N, nI S, 0, 0, nI A, nI P, nI T, wt, lc, nI d, 0, yc, rK, rV, Nk, nl, N2, C1, C2, C3, nf, sk, cl, ck, cv, mk, wk, rm, gk, gn, ge, gv, gp, gq, yk, yv, 32768, 32768)) ∧ sc_SR M r u1 v1 := by
  obtain ⟨u1, v1, r, KX, KY, hS⟩ := sm_ret (rc := rc) (rs := rs) (cu := cu) (ec := ec) (en := en) (wt := wt) (lc := lc) (yc := yc) (mk := mk) (wk := wk) (rm := rm) (yk := yk) (yv := yv) hB hd hM hT hH hI hV
  refine ⟨u1, v1, r, fun post m i hi h => ?_, fun post m i hi h1 h2 => ?_, hS⟩
  · obtain ⟨_, _, _, _, _, _, _, _, _, _, _, _, _, _, _, _, _, _, _, _, _, _, _, _, _, _, _, _, _, _, _, _, _, _, _⟩ := u1
    exact br_f (nI_ge (a := i) (b := 1000000) hi (by omega)) (br_t rfl (br_t rfl (KX _ (nm_r (nI_1 i) h))))
  · obtain ⟨_, _, _, _, _, _, _, _, _, _, _, _, _, _, _, _, _, _, _, _, _, _, _, _, _, _, _, _, _, _, _, _, _, _, _, _, _, _, _, _, _⟩ := v1
    exact br_f (nI_ge (a := i) (b := 100000) hi (by omega)) (br_t rfl (KY _ (br_c (fun z => nm_r (nI_1 i) (h1 z)) h2)))
theorem sm_errk {r : Int32} (hB : sc_BA F L D N S A P sz nk nl n2 k1 k2 k3 nf sk Nk N2 C1 C2 C3) (h2 : ¬ r = -2) (h0 : ¬ r = 0) : sc_RL (nI F, nI L, nI D, nI N, nI S, 0, 0, nI A, nI P, r, ev, cu, ec, va, vc, dp, rc, nk, nl, n2, k1, k2, k3, nf, sk, en, fk, fn, fl, fm, iu, sl, sw, sm, rs) (nI F, nI L, nI D, nI N, nI S, 0, 0, nI A, nI P, ct, wt, lc, sp, ye, yc, rK, rV, Nk, nl, N2, C1, C2, C3, nf, sk, cl, ck, cv, mk, wk, rm, gk, gn, ge, gv, gp, gq, yk, yv, 32768, 32768) ∧ ∀ (post : Int32 → SX → Prop) n i, i < 1000000 → post r (nI F, nI L, nI D, nI N, nI S, 0, 0, nI A, nI P, r, ev, cu, ec, va, vc, dp, rc, nk, nl, n2, k1, k2, k3, nf, sk, en, fk, fn, fl, fm, iu, sl, sw, sm, rs) → sc_lX post (n + 1) (nI i) (nI F, nI L, nI D, nI N, nI S, 0, 0, nI A, nI P, r, ev, cu, ec, va, vc, dp, rc, nk, nl, n2, k1, k2, k3, nf, sk, en, fk, fn, fl, fm, iu, sl, sw, sm, rs) := by
  refine ⟨sc_RLk hB (Or.inl ⟨rfl, rfl, rfl, rfl⟩), fun post n i hi hp => ?_⟩
  exact br_f (nI_ge (a := i) (b := 1000000) hi (by omega)) (br_f h2 (br_f h0 hp))
theorem sm_ok1 (hB : sc_BA F L D N S A P sz nk nl n2 k1 k2 k3 nf sk Nk N2 C1 C2 C3) : sc_RL (nI F, nI L, nI D, nI N, nI S, 1, rV, nI A, nI P, 0, ev, cu, ec, rV, 0, dp, rc, nk, nl, n2, k1, k2, k3, nf, sk, en, fk, fn, fl, fm, iu, sl, sw, sm, rs) (nI F, nI L, nI D, nI N, nI S, 1, rV, nI A, nI P, ct, wt, lc, sp, ye, yc, 1, rV, Nk, nl, N2, C1, C2, C3, nf, sk, cl, ck, cv, mk, wk, rm, gk, gn, ge, gv, gp, gq, yk, yv, 32768, 32768) ∧ ∀ (post : Int32 → SX → Prop) n i, i < 1000000 → post 0 (nI F, nI L, nI D, nI N, nI S, 1, rV, nI A, nI P, 0, ev, cu, ec, rV, 0, dp, rc, nk, nl, n2, k1, k2, k3, nf, sk, en, fk, fn, fl, fm, iu, sl, sw, sm, rs) → sc_lX post (n + 1) (nI i) (nI F, nI L, nI D, nI N, nI S, 0, 0, nI A, nI P, 0, ev, cu, ec, rV, 0, dp, rc, nk, nl, n2, k1, k2, k3, nf, sk, en, fk, fn, fl, fm, iu, sl, sw, sm, rs) := by
  refine ⟨sc_RLk hB (Or.inr (Or.inl ⟨rfl, rfl, rfl⟩)), fun post n i hi hp => ?_⟩
  exact br_f (nI_ge (a := i) (b := 1000000) hi (by omega)) (br_f (by decide) (br_t rfl (br_t rfl hp)))
theorem sm_ok2 {s : Nat} (hB : sc_BA F L D N S A P sz nk nl n2 k1 k2 k3 nf sk Nk N2 C1 C2 C3) (hT : T ≤ 4096) (hb : sc_HB g U iu T) (hn : ∀ s, U s → sc_HN g U N nk nf sl sw sm cl ck cv s) (hI : sc_IU 32 iu) (hs : U s) (y1 : va = nI s) (y2 : rV = nI (g s)) : sc_RL (nI F, nI L, nI D, nI N, nI S, 2, va, nI A, nI P, 0, ev, cu, ec, va, 1, dp, rc, nk, nl, n2, k1, k2, k3, nf, sk, en, fk, fn, fl, fm, iu, sl, sw, sm, rs) (nI F, nI L, nI D, nI N, nI S, 2, rV, nI A, nI P, nI T, wt, lc, sp, ye, yc, 2, rV, Nk, nl, N2, C1, C2, C3, nf, sk, cl, ck, cv, mk, wk, rm, gk, gn, ge, gv, gp, gq, yk, yv, 32768, 32768) ∧ ∀ (post : Int32 → SX → Prop) n i, i < 1000000 → post 0 (nI F, nI L, nI D, nI N, nI S, 2, va, nI A, nI P, 0, ev, cu, ec, va, 1, dp, rc, nk, nl, n2, k1, k2, k3, nf, sk, en, fk, fn, fl, fm, iu, sl, sw, sm, rs) → sc_lX post (n + 1) (nI i) (nI F, nI L, nI D, nI N, nI S, 0, 0, nI A, nI P, 0, ev, cu, ec, va, 1, dp, rc, nk, nl, n2, k1, k2, k3, nf, sk, en, fk, fn, fl, fm, iu, sl, sw, sm, rs) := by
  refine ⟨sc_RLk hB (Or.inr (Or.inr ⟨rfl, rfl, s, g, U, T, rfl, hT, hb, hn, hI, hs, y1, y2⟩)), fun post n i hi hp => ?_⟩
  exact br_f (nI_ge (a := i) (b := 1000000) hi (by omega)) (br_f (by decide) (br_t rfl (br_f (by decide) hp)))
end
end
section
/-! ===== taking the relations apart (by terms: a destructuring of seventy names by tactics takes minutes) ===== -/
theorem sc_MR_e {M : Nat} {u : SX} {v : SY} {C : Prop} (h : sc_MR M u v) (k : ∀ (fu ll dl nc ss hk hv ca pk st ev cu ec va vc dp rc hK hV ct wt lc yc rK rV : Int32) (nk nl n2 k1 k2 k3 nf sk en fk fn fl fm iu sl sw sm rs Nk N2 C1 C2 C3 cl ck cv mk wk rm gk gn ge gv gp gq yk yv : Nat → Int32), u = (fu, ll, dl, nc, ss, 0, 0, ca, pk, -2, ev, cu, ec, va, vc, dp, rc, nk, nl, n2, k1, k2, k3, nf, sk, en, fk, fn, fl, fm, iu, sl, sw, sm, rs) → v = (fu, ll, dl, nc, ss, 0, 0, ca, pk, ct, wt, lc, dp, ev, yc, rK, rV, Nk, nl, N2, C1, C2, C3, nf, sk, cl, ck, cv, mk, wk, rm, gk, gn, ge, gv, gp, gq, yk, yv, 32768, 32768) → sc_mr M fu ll dl nc ss ca pk ev cu ec va vc dp ct yc rK rV nk nl n2 k1 k2 k3 nf sk en fk fn fl fm iu sl sw sm Nk N2 C1 C2 C3 cl ck cv gk gn ge gv gp gq yk yv → C) : C := h.elim fun fu h => h.elim fun ll h => h.elim fun dl h => h.elim fun nc h => h.elim fun ss h => h.elim fun hk h => h.elim fun hv h => h.elim fun ca h => h.elim fun pk h => h.elim fun st h => h.elim fun ev h => h.elim fun cu h => h.elim fun ec h => h.elim fun va h => h.elim fun vc h => h.elim fun dp h => h.elim fun rc h => h.elim fun hK h => h.elim fun hV h => h.elim fun ct h => h.elim fun wt h => h.elim fun lc h => h.elim fun yc h => h.elim fun rK h => h.elim fun rV h => h.elim fun nk h => h.elim fun nl h => h.elim fun n2 h => h.elim fun k1 h => h.elim fun k2 h => h.elim fun k3 h => h.elim fun nf h => h.elim fun sk h => h.elim fun en h => h.elim fun fk h => h.elim fun fn h => h.elim fun fl h => h.elim fun fm h => h.elim fun iu h => h.elim fun sl h => h.elim fun sw h => h.elim fun sm h => h.elim fun rs h => h.elim fun Nk h => h.elim fun N2 h => h.elim fun C1 h => h.elim fun C2 h => h.elim fun C3 h => h.elim fun cl h => h.elim fun ck h => h.elim fun cv h => h.elim fun mk h => h.elim fun wk h => h.elim fun rm h => h.elim fun gk h => h.elim fun gn h => h.elim fun ge h => h.elim fun gv h => h.elim fun gp h => h.elim fun gq h => h.elim fun yk h => h.elim fun yv h => k fu ll dl nc ss hk hv ca pk st ev cu ec va vc dp rc hK hV ct wt lc yc rK rV nk nl n2 k1 k2 k3 nf sk en fk fn fl fm iu sl sw sm rs Nk N2 C1 C2 C3 cl ck cv mk wk rm gk gn ge gv gp gq yk yv h.1 h.2.1 h.2.2
theorem sc_ER_e {r : Int32} {u : SX} {v : SY} {C : Prop} (h : sc_ER r u v) (k : ∀ (fu ll dl nc ss hk hv ca pk st ev cu ec va vc dp rc hK hV ct wt lc yc rK rV : Int32) (nk nl n2 k1 k2 k3 nf sk en fk fn fl fm iu sl sw sm rs Nk N2 C1 C2 C3 cl ck cv mk wk rm gk gn ge gv gp gq yk yv : Nat → Int32) (sp ye : Int32), u = (fu, ll, dl, nc, ss, 0, 0, ca, pk, r, ev, cu, ec, va, vc, dp, rc, nk, nl, n2, k1, k2, k3, nf, sk, en, fk, fn, fl, fm, iu, sl, sw, sm, rs) → v = (fu, ll, dl, nc, ss, 0, 0, ca, pk, ct, wt, lc, sp, ye, yc, rK, rV, Nk, nl, N2, C1, C2, C3, nf, sk, cl, ck, cv, mk, wk, rm, gk, gn, ge, gv, gp, gq, yk, yv, 32768, 32768) → (∃ F L D N S A P sz, (fu = nI F ∧ ll = nI L ∧ dl = nI D ∧ nc = nI N ∧ ss = nI S ∧ ca = nI A ∧ pk = nI P) ∧ sc_BA F L D N S A P sz nk nl n2 k1 k2 k3 nf sk Nk N2 C1 C2 C3) → C) : C := h.elim fun fu h => h.elim fun ll h => h.elim fun dl h => h.elim fun nc h => h.elim fun ss h => h.elim fun hk h => h.elim fun hv h => h.elim fun ca h => h.elim fun pk h => h.elim fun st h => h.elim fun ev h => h.elim fun cu h => h.elim fun ec h => h.elim fun va h => h.elim fun vc h => h.elim fun dp h => h.elim fun rc h => h.elim fun hK h => h.elim fun hV h => h.elim fun ct h => h.elim fun wt h => h.elim fun lc h => h.elim fun yc h => h.elim fun rK h => h.elim fun rV h => h.elim fun nk h => h.elim fun nl h => h.elim fun n2 h => h.elim fun k1 h => h.elim fun k2 h => h.elim fun k3 h => h.elim fun nf h => h.elim fun sk h => h.elim fun en h => h.elim fun fk h => h.elim fun fn h => h.elim fun fl h => h.elim fun fm h => h.elim fun iu h => h.elim fun sl h => h.elim fun sw h => h.elim fun sm h => h.elim fun rs h => h.elim fun Nk h => h.elim fun N2 h => h.elim fun C1 h => h.elim fun C2 h => h.elim fun C3 h => h.elim fun cl h => h.elim fun ck h => h.elim fun cv h => h.elim fun mk h => h.elim fun wk h => h.elim fun rm h => h.elim fun gk h => h.elim fun gn h => h.elim fun ge h => h.elim fun gv h => h.elim fun gp h => h.elim fun gq h => h.elim fun yk h => h.elim fun yv h => h.elim fun sp h => h.elim fun ye h => k fu ll dl nc ss hk hv ca pk st ev cu ec va vc dp rc hK hV ct wt lc yc rK rV nk nl n2 k1 k2 k3 nf sk en fk fn fl fm iu sl sw sm rs Nk N2 C1 C2 C3 cl ck cv mk wk rm gk gn ge gv gp gq yk yv sp ye h.1 h.2.1 h.2.2
theorem sc_OK_e {u : SX} {v : SY} {C : Prop} (h : sc_OK u v) (k : ∀ (fu ll dl nc ss hk hv ca pk st ev cu ec va vc dp rc hK hV ct wt lc yc rK rV : Int32) (nk nl n2 k1 k2 k3 nf sk en fk fn fl fm iu sl sw sm rs Nk N2 C1 C2 C3 cl ck cv mk wk rm gk gn ge gv gp gq yk yv : Nat → Int32), u = (fu, ll, dl, nc, ss, 0, 0, ca, pk, 0, ev, cu, ec, va, vc, dp, rc, nk, nl, n2, k1, k2, k3, nf, sk, en, fk, fn, fl, fm, iu, sl, sw, sm, rs) → v = (fu, ll, dl, nc, ss, rK, rV, ca, pk, ct, wt, lc, dp, ev, yc, rK, rV, Nk, nl, N2, C1, C2, C3, nf, sk, cl, ck, cv, mk, wk, rm, gk, gn, ge, gv, gp, gq, yk, yv, 32768, 32768) → (∃ F L D N S A P sz g U T c, (fu = nI F ∧ ll = nI L ∧ dl = nI D ∧ nc = nI N ∧ ss = nI S ∧ ca = nI A ∧ pk = nI P ∧ ct = nI T) ∧ sc_BA F L D N S A P sz nk nl n2 k1 k2 k3 nf sk Nk N2 C1 C2 C3 ∧ T ≤ 4096 ∧ sc_HB g U iu T ∧ (∀ s, U s → sc_HN g U N nk nf sl sw sm cl ck cv s) ∧ sc_IU 32 iu ∧ vc = sc_bi c ∧ sc_VR g U va c rK rV) → C) : C := h.elim fun fu h => h.elim fun ll h => h.elim fun dl h => h.elim fun nc h => h.elim fun ss h => h.elim fun hk h => h.elim fun hv h => h.elim fun ca h => h.elim fun pk h => h.elim fun st h => h.elim fun ev h => h.elim fun cu h => h.elim fun ec h => h.elim fun va h => h.elim fun vc h => h.elim fun dp h => h.elim fun rc h => h.elim fun hK h => h.elim fun hV h => h.elim fun ct h => h.elim fun wt h => h.elim fun lc h => h.elim fun yc h => h.elim fun rK h => h.elim fun rV h => h.elim fun nk h => h.elim fun nl h => h.elim fun n2 h => h.elim fun k1 h => h.elim fun k2 h => h.elim fun k3 h => h.elim fun nf h => h.elim fun sk h => h.elim fun en h => h.elim fun fk h => h.elim fun fn h => h.elim fun fl h => h.elim fun fm h => h.elim fun iu h => h.elim fun sl h => h.elim fun sw h => h.elim fun sm h => h.elim fun rs h => h.elim fun Nk h => h.elim fun N2 h => h.elim fun C1 h => h.elim fun C2 h => h.elim fun C3 h => h.elim fun cl h => h.elim fun ck h => h.elim fun cv h => h.elim fun mk h => h.elim fun wk h => h.elim fun rm h => h.elim fun gk h => h.elim fun gn h => h.elim fun ge h => h.elim fun gv h => h.elim fun gp h => h.elim fun gq h => h.elim fun yk h => h.elim fun yv h => k fu ll dl nc ss hk hv ca pk st ev cu ec va vc dp rc hK hV ct wt lc yc rK rV nk nl n2 k1 k2 k3 nf sk en fk fn fl fm iu sl sw sm rs Nk N2 C1 C2 C3 cl ck cv mk wk rm gk gn ge gv gp gq yk yv h.1 h.2.1 h.2.2
section
variable {fu ll dl nc ss hk hv ca pk st ev cu ec va vc dp rc hK hV ct wt lc yc rK rV : Int32} {nk nl n2 k1 k2 k3 nf sk en fk fn fl fm iu sl sw sm rs Nk N2 C1 C2 C3 cl ck cv mk wk rm gk gn ge gv gp gq yk yv : Nat → Int32}
theorem sc_RL_f {sp ye : Int32} {u : SX} {v : SY} {C : Prop} (qu : u = (fu, ll, dl, nc, ss, hk, hv, ca, pk, st, ev, cu, ec, va, vc, dp, rc, nk, nl, n2, k1, k2, k3, nf, sk, en, fk, fn, fl, fm, iu, sl, sw, sm, rs)) (qv : v = (fu, ll, dl, nc, ss, hK, hV, ca, pk, ct, wt, lc, sp, ye, yc, rK, rV, Nk, nl, N2, C1, C2, C3, nf, sk, cl, ck, cv, mk, wk, rm, gk, gn, ge, gv, gp, gq, yk, yv, 32768, 32768)) (h : ∃ F L D N S A P sz, (fu = nI F ∧ ll = nI L ∧ dl = nI D ∧ nc = nI N ∧ ss = nI S ∧ ca = nI A ∧ pk = nI P) ∧ sc_BA F L D N S A P sz nk nl n2 k1 k2 k3 nf sk Nk N2 C1 C2 C3 ∧ sc_HD N hk hv hK hV ct nk nf iu sl sw sm cl ck cv) (k : ∀ (F L D N S A P : Nat) (sz : Nat → Nat), u = (nI F, nI L, nI D, nI N, nI S, hk, hv, nI A, nI P, st, ev, cu, ec, va, vc, dp, rc, nk, nl, n2, k1, k2, k3, nf, sk, en, fk, fn, fl, fm, iu, sl, sw, sm, rs) → v = (nI F, nI L, nI D, nI N, nI S, hK, hV, nI A, nI P, ct, wt, lc, sp, ye, yc, rK, rV, Nk, nl, N2, C1, C2, C3, nf, sk, cl, ck, cv, mk, wk, rm, gk, gn, ge, gv, gp, gq, yk, yv, 32768, 32768) → sc_BA F L D N S A P sz nk nl n2 k1 k2 k3 nf sk Nk N2 C1 C2 C3 → sc_HD N hk hv hK hV ct nk nf iu sl sw sm cl ck cv → C) : C := by
  obtain ⟨F, L, D, N, S, A, P, sz, ⟨e1, e2, e3, e4, e5, e6, e7⟩, hB, hD⟩ := h
  subst e1 e2 e3 e4 e5 e6 e7
  exact k F L D N S A P sz qu qv hB hD
end
theorem sc_RL_e {u : SX} {v : SY} {C : Prop} (h : sc_RL u v) (k : ∀ (hk hv st ev cu ec va vc dp rc hK hV ct wt lc yc rK rV : Int32) (nk nl n2 k1 k2 k3 nf sk en fk fn fl fm iu sl sw sm rs Nk N2 C1 C2 C3 cl ck cv mk wk rm gk gn ge gv gp gq yk yv : Nat → Int32) (sp ye : Int32) (F L D N S A P : Nat) (sz : Nat → Nat), u = (nI F, nI L, nI D, nI N, nI S, hk, hv, nI A, nI P, st, ev, cu, ec, va, vc, dp, rc, nk, nl, n2, k1, k2, k3, nf, sk, en, fk, fn, fl, fm, iu, sl, sw, sm, rs) → v = (nI F, nI L, nI D, nI N, nI S, hK, hV, nI A, nI P, ct, wt, lc, sp, ye, yc, rK, rV, Nk, nl, N2, C1, C2, C3, nf, sk, cl, ck, cv, mk, wk, rm, gk, gn, ge, gv, gp, gq, yk, yv, 32768, 32768) → sc_BA F L D N S A P sz nk nl n2 k1 k2 k3 nf sk Nk N2 C1 C2 C3 → sc_HD N hk hv hK hV ct nk nf iu sl sw sm cl ck cv → C) : C := h.elim fun fu h => h.elim fun ll h => h.elim fun dl h => h.elim fun nc h => h.elim fun ss h => h.elim fun hk h => h.elim fun hv h => h.elim fun ca h => h.elim fun pk h => h.elim fun st h => h.elim fun ev h => h.elim fun cu h => h.elim fun ec h => h.elim fun va h => h.elim fun vc h => h.elim fun dp h => h.elim fun rc h => h.elim fun hK h => h.elim fun hV h => h.elim fun ct h => h.elim fun wt h => h.elim fun lc h => h.elim fun yc h => h.elim fun rK h => h.elim fun rV h => h.elim fun nk h => h.elim fun nl h => h.elim fun n2 h => h.elim fun k1 h => h.elim fun k2 h => h.elim fun k3 h => h.elim fun nf h => h.elim fun sk h => h.elim fun en h => h.elim fun fk h => h.elim fun fn h => h.elim fun fl h => h.elim fun fm h => h.elim fun iu h => h.elim fun sl h => h.elim fun sw h => h.elim fun sm h => h.elim fun rs h => h.elim fun Nk h => h.elim fun N2 h => h.elim fun C1 h => h.elim fun C2 h => h.elim fun C3 h => h.elim fun cl h => h.elim fun ck h => h.elim fun cv h => h.elim fun mk h => h.elim fun wk h => h.elim fun rm h => h.elim fun gk h => h.elim fun gn h => h.elim fun ge h => h.elim fun gv h => h.elim fun gp h => h.elim fun gq h => h.elim fun yk h => h.elim fun yv h => h.elim fun sp h => h.elim fun ye h => sc_RL_f h.1 h.2.1 h.2.2 (k hk hv st ev cu ec va vc dp rc hK hV ct wt lc yc rK rV nk nl n2 k1 k2 k3 nf sk en fk fn fl fm iu sl sw sm rs Nk N2 C1 C2 C3 cl ck cv mk wk rm gk gn ge gv gp gq yk yv sp ye)
end
section
/-! ===== one step of the machine, and its ends ===== -/
theorem sm_step {M : Nat} {u : SX} {v : SY} (h : sc_MR M u v) : ∃ u1 v1 r, (∀ (post : Int32 → SX → Prop) n i, i < 1000000 → sc_lX post n (nI (i + 1)) u1 → sc_lX post (n + 1) (nI i) u) ∧ (∀ (post : Int32 → SY → Prop) n i, i < 100000 → (r = -2 → sc_lY post n (nI (i + 1)) v1) → (¬ r = -2 → post r v1) → sc_lY post (n + 1) (nI i) v) ∧ sc_SR M r u1 v1 := by
  refine sc_MR_e h (fun fu ll dl nc ss hk hv ca pk st ev cu ec va vc dp rc hK hV ct wt lc yc rK rV nk nl n2 k1 k2 k3 nf sk en fk fn fl fm iu sl sw sm rs Nk N2 C1 C2 C3 cl ck cv mk wk rm gk gn ge gv gp gq yk yv qu qv hm => ?_)
  clear h
  subst qu qv
  obtain ⟨F, L, D, N, S, A, P, sz, g, U, T, d, q, Q, ⟨e1, e2, e3, e4, e5, e6, e7, e8, e9⟩, hB, ⟨hd, hM, hT⟩, hH, hI, hS⟩ := hm
  subst e1 e2 e3 e4 e5 e6 e7 e8 e9
  rcases hS with ⟨rfl, n, hn, rfl, rfl, rfl, hR⟩ | ⟨rfl, rfl, c, rfl, hV⟩
  · exact sm_stepE hB hd hM hT hH hI hn hR
  · exact sm_stepR hB hd hM hT hH hI hV
theorem sm_err {r : Int32} {u : SX} {v : SY} (h : sc_ER r u v) (h2 : ¬ r = -2) (h0 : ¬ r = 0) : sc_RL u v ∧ ∀ (post : Int32 → SX → Prop) n i, i < 1000000 → post r u → sc_lX post (n + 1) (nI i) u := by
  refine sc_ER_e h (fun fu ll dl nc ss hk hv ca pk st ev cu ec va vc dp rc hK hV ct wt lc yc rK rV nk nl n2 k1 k2 k3 nf sk en fk fn fl fm iu sl sw sm rs Nk N2 C1 C2 C3 cl ck cv mk wk rm gk gn ge gv gp gq yk yv sp ye qu qv hm => ?_)
  clear h
  subst qu qv
  obtain ⟨F, L, D, N, S, A, P, sz, ⟨e1, e2, e3, e4, e5, e6, e7⟩, hB⟩ := hm
  subst e1 e2 e3 e4 e5 e6 e7
  exact sm_errk hB h2 h0
theorem sm_ok {u : SX} {v : SY} (h : sc_OK u v) : ∃ u', sc_RL u' v ∧ ∀ (post : Int32 → SX → Prop) n i, i < 1000000 → post 0 u' → sc_lX post (n + 1) (nI i) u := by
  refine sc_OK_e h (fun fu ll dl nc ss hk hv ca pk st ev cu ec va vc dp rc hK hV ct wt lc yc rK rV nk nl n2 k1 k2 k3 nf sk en fk fn fl fm iu sl sw sm rs Nk N2 C1 C2 C3 cl ck cv mk wk rm gk gn ge gv gp gq yk yv qu qv hm => ?_)
  clear h
  subst qu qv
  obtain ⟨F, L, D, N, S, A, P, sz, g, U, T, c, ⟨e1, e2, e3, e4, e5, e6, e7, e8⟩, hB, hT, hb, hn, hI, ec1, hV⟩ := hm
  subst e1 e2 e3 e4 e5 e6 e7 e8 ec1
  rcases hV with ⟨rfl, rfl, rfl⟩ | ⟨rfl, rfl, s, hs, y1, y2⟩
  · exact ⟨_, sm_ok1 hB⟩
  · exact ⟨_, sm_ok2 hB hT hb hn hI hs y1 y2⟩
end
section
theorem sm_loop : ∀ (M : Nat) (u : SX) (v : SY), sc_MR M u v → ∃ r u' v', sc_RL u' v' ∧ (∀ (post : Int32 → SX → Prop) n i, M + 2 < n → i + M + 2 ≤ 1000000 → post r u' → sc_lX post n (nI i) u) ∧ (∀ (post : Int32 → SY → Prop) n i, M + 2 < n → i + M + 2 ≤ 100000 → post r v' → sc_lY post n (nI i) v) := by
  intro M
  induction M using Nat.strongRecOn with
  | ind M ih =>
    intro u v h
    obtain ⟨u1, v1, r, KX, KY, hS⟩ := sm_step h
    rcases hS with ⟨hr, M', hM, h1⟩ | ⟨h2, h0, h1⟩ | ⟨hr, h1⟩
    · obtain ⟨r', u', v', hR, LX, LY⟩ := ih M' hM u1 v1 h1
      refine ⟨r', u', v', hR, fun post n i hn hi hp => ?_, fun post n i hn hi hp => ?_⟩
      · obtain ⟨m, rfl⟩ : ∃ m, n = m + 1 := ⟨n - 1, by omega⟩
        exact KX post m i (by omega) (LX post m (i + 1) (by omega) (by omega) hp)
      · obtain ⟨m, rfl⟩ : ∃ m, n = m + 1 := ⟨n - 1, by omega⟩
        exact KY post m i (by omega) (fun _ => LY post m (i + 1) (by omega) (by omega) hp) (fun z => absurd hr z)
    · obtain ⟨hR, LX⟩ := sm_err h1 h2 h0
      refine ⟨r, u1, v1, hR, fun post n i hn hi hp => ?_, fun post n i hn hi hp => ?_⟩
      · obtain ⟨m, rfl⟩ : ∃ m, n = m + 1 + 1 := ⟨n - 2, by omega⟩
        exact KX post (m + 1) i (by omega) (LX post m (i + 1) (by omega) hp)
      · obtain ⟨m, rfl⟩ : ∃ m, n = m + 1 := ⟨n - 1, by omega⟩
        exact KY post m i (by omega) (fun z => absurd z h2) (fun _ => hp)
    · obtain ⟨u', hR, LX⟩ := sm_ok h1
      subst hr
      refine ⟨0, u', v1, hR, fun post n i hn hi hp => ?_, fun post n i hn hi hp => ?_⟩
      · obtain ⟨m, rfl⟩ : ∃ m, n = m + 1 + 1 := ⟨n - 2, by omega⟩
        exact KX post (m + 1) i (by omega) (LX post m (i + 1) (by omega) hp)
      · obtain ⟨m, rfl⟩ : ∃ m, n = m + 1 := ⟨n - 1, by omega⟩
        exact KY post m i (by omega) (fun z => absurd z (by decide)) (fun _ => hp)
end
section
/-! ===== nodes made, both sides ===== -/
theorem sc_sum_add (f : Nat → Nat) (B : Nat) : ∀ c, sc_sum f (B + c) = sc_sum f B + sc_sum (fun j => f (B + j)) c := by
  intro c
  induction c with
  | zero => rfl
  | succ c ih =>
    show sc_sum f (B + c) + f (B + c) = sc_sum f B + (sc_sum (fun j => f (B + j)) c + f (B + c))
    omega
theorem sc_sum_c {f h : Nat → Nat} : ∀ c, (∀ j, j < c → f j = h j) → sc_sum f c = sc_sum h c := by
  intro c
  induction c with
  | zero => intro _; rfl
  | succ c ih =>
    intro e
    show sc_sum f c + f c = sc_sum h c + h c
    rw [ih (fun j hj => e j (by omega)), e c (by omega)]
theorem sc_nd_c {sz sz' : Nat → Nat} {nk nl n2 k1 k2 k3 nf Nk N2 C1 C2 C3 nk' nl' n2' k1' k2' k3' nf' Nk' N2' C1' C2' C3' : Nat → Int32} {i : Nat} (h : sc_nd sz nk nl n2 k1 k2 k3 nf Nk N2 C1 C2 C3 i) (ez : ∀ j, j ≤ i → sz' j = sz j) (e1 : ∀ j, j ≤ i → nk' j = nk j) (e2 : ∀ j, j ≤ i → nl' j = nl j) (e3 : ∀ j, j ≤ i → n2' j = n2 j) (e4 : ∀ j, j ≤ i → k1' j = k1 j) (e5 : ∀ j, j ≤ i → k2' j = k2 j) (e6 : ∀ j, j ≤ i → k3' j = k3 j) (e7 : ∀ j, j ≤ i → nf' j = nf j) (e8 : ∀ j, j ≤ i → Nk' j = Nk j) (e9 : ∀ j, j ≤ i → N2' j = N2 j) (e10 : ∀ j, j ≤ i → C1' j = C1 j) (e11 : ∀ j, j ≤ i → C2' j = C2 j) (e12 : ∀ j, j ≤ i → C3' j = C3 j) : sc_nd sz' nk' nl' n2' k1' k2' k3' nf' Nk' N2' C1' C2' C3' i := by
  obtain ⟨h1, h2⟩ := h
  have le : i ≤ i := Nat.le_refl i
  unfold sc_nd
  rw [ez i le, e1 i le, e2 i le, e3 i le, e4 i le, e5 i le, e6 i le, e7 i le, e8 i le, e9 i le, e10 i le, e11 i le, e12 i le]
  refine ⟨h1, ?_⟩
  have F : ∀ b, b < i → ∀ y, bt (nf' b) y = true → bt (nf b) y = true := fun b hb y h => by rw [e7 b (by omega)] at h; exact h
  rcases h2 with h | ⟨x1, x2, h⟩ | ⟨x1, x2, x, b, hx, hb, a1, a2, a3, a4, a5⟩ | ⟨x12, a, b, ha, hb, a1, a2, a3, a4, a5, a6, a7⟩ | ⟨x1, x2, a, b, e, ha, hb, he, a1, a2, a3, a4, a5, a6, a7, a8, a9, a10⟩ | ⟨x1, x2, x, a, b, hx, ha, hb, a1, a2, a3, a4, a5, a6, a7, a8⟩ | ⟨x1, x2, x, l, b, hx, hl, hb, a1, a2, a3, a4, a5, a6, a7, a8, a9, a10⟩ | ⟨x1, x2, x, z, l, m, b, hx, hz, hxz, hl, hm, hb, a1, a2, a3, a4, a5, a6, a7, a8, a9, a10, a11, a12, a13, a14, a15⟩
  · exact Or.inl h
  · exact Or.inr (Or.inl ⟨x1, x2, h⟩)
  · exact Or.inr (Or.inr (Or.inl ⟨x1, x2, x, b, hx, hb, a1, a2, a3, by rw [ez b (by omega)]; exact a4, fun y hy h => a5 y hy (F b hb y h)⟩))
  · exact Or.inr (Or.inr (Or.inr (Or.inl ⟨x12, a, b, ha, hb, a1, a2, a3, a4, by rw [ez a (by omega), ez b (by omega)]; exact a5, fun y hy h => a6 y hy (F a ha y h), fun y hy h => a7 y hy (F b hb y h)⟩)))
  · exact Or.inr (Or.inr (Or.inr (Or.inr (Or.inl ⟨x1, x2, a, b, e, ha, hb, he, a1, a2, a3, a4, a5, a6, by rw [ez a (by omega), ez b (by omega), ez e (by omega)]; exact a7, fun y hy h => a8 y hy (F a ha y h), fun y hy h => a9 y hy (F b hb y h), fun y hy h => a10 y hy (F e he y h)⟩))))
  · exact Or.inr (Or.inr (Or.inr (Or.inr (Or.inr (Or.inl ⟨x1, x2, x, a, b, hx, ha, hb, a1, a2, a3, a4, a5, by rw [ez a (by omega), ez b (by omega)]; exact a6, fun y hy h => a7 y hy (F a ha y h), fun y hy h => a8 y hy (F b hb y h)⟩)))))
  · exact Or.inr (Or.inr (Or.inr (Or.inr (Or.inr (Or.inr (Or.inl ⟨x1, x2, x, l, b, hx, hl, hb, a1, by rw [e1 l (by omega)]; exact a2, a3, a4, a5, a6, a7, by rw [ez l (by omega), ez b (by omega)]; exact a8, fun y hy h => a9 y hy (F l hl y h), fun y hy h => a10 y hy (F b hb y h)⟩))))))
  · exact Or.inr (Or.inr (Or.inr (Or.inr (Or.inr (Or.inr (Or.inr ⟨x1, x2, x, z, l, m, b, hx, hz, hxz, hl, hm, hb, a1, a2, a3, by rw [e1 l (by omega)]; exact a4, by rw [e1 m (by omega)]; exact a5, a6, a7, a8, a9, a10, a11, by rw [ez l (by omega), ez m (by omega), ez b (by omega)]; exact a12, fun y hy h => a13 y hy (F l hl y h), fun y hy h => a14 y hy (F m hm y h), fun y hy h => a15 y hy (F b hb y h)⟩))))))
section
variable {fu ll dl nc ss hk hv ca pk st ev cu ec va vc dp rc hK hV ct wt lc yc rK rV : Int32} {nk nl n2 k1 k2 k3 nf sk en fk fn fl fm iu sl sw sm rs Nk N2 C1 C2 C3 cl ck cv mk wk rm gk gn ge gv gp gq yk yv : Nat → Int32}
variable {F L D N S A P B c z : Nat} {sz : Nat → Nat} {v1 v2 v3 v4 v5 v6 v7 y1 y2 y3 y4 y5 : Int32}
theorem sc_BA_n (hB : sc_BA F L D N (B + c) A P sz nk nl n2 k1 k2 k3 nf sk Nk N2 C1 C2 C3) (hN : N < 32) (hz : z = 1 + sc_sum (fun j => sz (sk (B + j)).toNatClampNeg) c) (hnd : sc_nd (fun i => if i = N then z else sz i) (upd nk N v1) (upd nl N v2) (upd n2 N v3) (upd k1 N v4) (upd k2 N v5) (upd k3 N v6) (upd nf N v7) (upd Nk N y1) (upd N2 N y2) (upd C1 N y3) (upd C2 N y4) (upd C3 N y5) N) : sc_BA F L D (N + 1) (B + 1) A P (fun i => if i = N then z else sz i) (upd nk N v1) (upd nl N v2) (upd n2 N v3) (upd k1 N v4) (upd k2 N v5) (upd k3 N v6) (upd nf N v7) (upd sk B (nI N)) (upd Nk N y1) (upd N2 N y2) (upd C1 N y3) (upd C2 N y4) (upd C3 N y5) := by
  obtain ⟨⟨b1, b2, b3, b4, b5, b6, b7, b8⟩, hP, hS, hsum⟩ := hB
  have hsum' : sc_sum (fun j => sz (sk j).toNatClampNeg) B + sc_sum (fun j => sz (sk (B + j)).toNatClampNeg) c = N := by
    rw [← hsum, sc_sum_add]
  have hle : B ≤ N := by omega
  refine ⟨⟨b1, b2, b3, b4, by omega, by omega, b7, b8⟩, ?_, ?_, ?_⟩
  · intro i hi
    by_cases e : i = N
    · subst e
      exact hnd
    · exact sc_nd_c (hP i (by omega)) (fun j hj => if_neg (by omega)) (fun j hj => pk_un (by omega)) (fun j hj => pk_un (by omega)) (fun j hj => pk_un (by omega)) (fun j hj => pk_un (by omega)) (fun j hj => pk_un (by omega)) (fun j hj => pk_un (by omega)) (fun j hj => pk_un (by omega)) (fun j hj => pk_un (by omega)) (fun j hj => pk_un (by omega)) (fun j hj => pk_un (by omega)) (fun j hj => pk_un (by omega)) (fun j hj => pk_un (by omega))
  · intro j hj
    by_cases e : j = B
    · subst e
      exact ⟨N, by omega, pk_us⟩
    · obtain ⟨i, hi, e2⟩ := hS j (by omega)
      exact ⟨i, by omega, by rw [pk_un e]; exact e2⟩
  · show sc_sum (fun j => (fun i => if i = N then z else sz i) (upd sk B (nI N) j).toNatClampNeg) B + (fun i => if i = N then z else sz i) (upd sk B (nI N) B).toNatClampNeg = N + 1
    rw [sc_sum_c (h := fun j => sz (sk j).toNatClampNeg) B ?_, pk_us, nI_clamp (by omega)]
    · dsimp only
      rw [if_pos rfl]
      omega
    · intro j hj
      obtain ⟨i, hi, e2⟩ := hS j (by omega)
      dsimp only
      rw [pk_un (by omega), e2, nI_clamp (by omega), if_neg (by omega)]
theorem sc_HD_n (h : sc_HD N hk hv hK hV ct nk nf iu sl sw sm cl ck cv) : sc_HD (N + 1) hk hv hK hV ct (upd nk N v1) (upd nf N v7) iu sl sw sm cl ck cv := by
  rcases h with h | h | ⟨h1, h2, s, g, U, T, a1, a2, a3, a4, a5, a6, a7, a8⟩
  · exact Or.inl h
  · exact Or.inr (Or.inl h)
  · refine Or.inr (Or.inr ⟨h1, h2, s, g, U, T, a1, a2, a3, fun t ht => ?_, a5, a6, a7, a8⟩)
    obtain ⟨l, l1, l2, l3, l4, l5, l6, l7⟩ := a4 t ht
    have ne : l ≠ N := by omega
    have e : upd nf N v7 l = nf l := pk_un ne
    exact ⟨l, by omega, by rw [pk_un ne]; exact l2, l3, l4, by rw [e]; exact l5, by rw [e]; exact l6, by rw [e]; exact l7⟩
end
section
variable {fu ll dl nc ss hk hv ca pk st ev cu ec va vc dp rc : Int32} {nk nl n2 k1 k2 k3 nf sk en fk fn fl fm iu sl sw sm rs : Nat → Int32}
variable {N B : Nat} {p0 p1 p2 p4 : Int32}
theorem xw_node0 {post : Int32 → SX → Prop} (hN : N < 32) (hB : B + 0 ≤ N) (h : post (nI N) (fu, ll, dl, nI (N + 1), nI (B + 1), hk, hv, ca, pk, st, ev, cu, ec, va, vc, dp, rc, upd nk N p0, upd nl N p1, upd n2 N p2, upd k1 N (0), upd k2 N (0), upd k3 N (0), upd nf N p4, upd sk B (nI N), en, fk, fn, fl, fm, iu, sl, sw, sm, rs)) : wpX_makeNode post (fu, ll, dl, nI N, nI B, hk, hv, ca, pk, st, ev, cu, ec, va, vc, dp, rc, nk, nl, n2, k1, k2, k3, nf, sk, en, fk, fn, fl, fm, iu, sl, sw, sm, rs) p0 p1 p2 0 p4 := by
  unfold wpX_makeNode
  refine nm_r (e' := nI B) (Int32.sub_zero _) (nm_r (nI_1 N) ⟨vp_in_nI (by omega) (by omega), nm_r (e' := upd nk N p0) (by rw [nI_clamp (n := N) (by omega)]) ⟨vp_in_nI (by omega) (by omega), nm_r (e' := upd nl N p1) (by rw [nI_clamp (n := N) (by omega)]) ⟨vp_in_nI (by omega) (by omega), nm_r (e' := upd n2 N p2) (by rw [nI_clamp (n := N) (by omega)]) ⟨vp_in_nI (by omega) (by omega), nm_r (e' := upd nf N p4) (by rw [nI_clamp (n := N) (by omega)]) (br_t (by decide) ⟨vp_in_nI (by omega) (by omega), nm_r (e' := upd k1 N (0)) (by rw [nI_clamp (n := N) (by omega)]) (br_t (by decide) ⟨vp_in_nI (by omega) (by omega), nm_r (e' := upd k2 N (0)) (by rw [nI_clamp (n := N) (by omega)]) (br_t (by decide) ⟨vp_in_nI (by omega) (by omega), nm_r (e' := upd k3 N (0)) (by rw [nI_clamp (n := N) (by omega)]) ⟨vp_in_nI (by omega) (by omega), nm_r (e' := upd sk B (nI N)) (by rw [nI_clamp (n := B) (by omega)]) (nm_r (nI_1 B) h)⟩⟩)⟩)⟩)⟩⟩⟩⟩)
theorem xw_node1 {post : Int32 → SX → Prop} (hN : N < 32) (hB : B + 1 ≤ N) (h : post (nI N) (fu, ll, dl, nI (N + 1), nI (B + 1), hk, hv, ca, pk, st, ev, cu, ec, va, vc, dp, rc, upd nk N p0, upd nl N p1, upd n2 N p2, upd k1 N (sk B), upd k2 N (0), upd k3 N (0), upd nf N p4, upd sk B (nI N), en, fk, fn, fl, fm, iu, sl, sw, sm, rs)) : wpX_makeNode post (fu, ll, dl, nI N, nI (B + 1), hk, hv, ca, pk, st, ev, cu, ec, va, vc, dp, rc, nk, nl, n2, k1, k2, k3, nf, sk, en, fk, fn, fl, fm, iu, sl, sw, sm, rs) p0 p1 p2 1 p4 := by
  unfold wpX_makeNode
  refine nm_r (e' := nI B) ((pk_sub (a := B + 1) (b := 1) (by omega)).trans (congrArg nI (by omega))) (nm_r (nI_1 N) ⟨vp_in_nI (by omega) (by omega), nm_r (e' := upd nk N p0) (by rw [nI_clamp (n := N) (by omega)]) ⟨vp_in_nI (by omega) (by omega), nm_r (e' := upd nl N p1) (by rw [nI_clamp (n := N) (by omega)]) ⟨vp_in_nI (by omega) (by omega), nm_r (e' := upd n2 N p2) (by rw [nI_clamp (n := N) (by omega)]) ⟨vp_in_nI (by omega) (by omega), nm_r (e' := upd nf N p4) (by rw [nI_clamp (n := N) (by omega)]) (br_f (by decide) ⟨vp_in_nI (by omega) (by omega), ⟨vp_in_nI (by omega) (by omega), nm_r (e' := upd k1 N (sk B)) (by rw [nI_clamp (n := N) (by omega), nI_clamp (n := B) (by omega)]) (br_t (by decide) ⟨vp_in_nI (by omega) (by omega), nm_r (e' := upd k2 N (0)) (by rw [nI_clamp (n := N) (by omega)]) (br_t (by decide) ⟨vp_in_nI (by omega) (by omega), nm_r (e' := upd k3 N (0)) (by rw [nI_clamp (n := N) (by omega)]) ⟨vp_in_nI (by omega) (by omega), nm_r (e' := upd sk B (nI N)) (by rw [nI_clamp (n := B) (by omega)]) (nm_r (nI_1 B) h)⟩⟩)⟩)⟩⟩)⟩⟩⟩⟩)
theorem xw_node2 {post : Int32 → SX → Prop} (hN : N < 32) (hB : B + 2 ≤ N) (h : post (nI N) (fu, ll, dl, nI (N + 1), nI (B + 1), hk, hv, ca, pk, st, ev, cu, ec, va, vc, dp, rc, upd nk N p0, upd nl N p1, upd n2 N p2, upd k1 N (sk B), upd k2 N (sk (B + 1)), upd k3 N (0), upd nf N p4, upd sk B (nI N), en, fk, fn, fl, fm, iu, sl, sw, sm, rs)) : wpX_makeNode post (fu, ll, dl, nI N, nI (B + 2), hk, hv, ca, pk, st, ev, cu, ec, va, vc, dp, rc, nk, nl, n2, k1, k2, k3, nf, sk, en, fk, fn, fl, fm, iu, sl, sw, sm, rs) p0 p1 p2 2 p4 := by
  unfold wpX_makeNode
  refine nm_r (e' := nI B) ((pk_sub (a := B + 2) (b := 2) (by omega)).trans (congrArg nI (by omega))) (nm_r (nI_1 N) ⟨vp_in_nI (by omega) (by omega), nm_r (e' := upd nk N p0) (by rw [nI_clamp (n := N) (by omega)]) ⟨vp_in_nI (by omega) (by omega), nm_r (e' := upd nl N p1) (by rw [nI_clamp (n := N) (by omega)]) ⟨vp_in_nI (by omega) (by omega), nm_r (e' := upd n2 N p2) (by rw [nI_clamp (n := N) (by omega)]) ⟨vp_in_nI (by omega) (by omega), nm_r (e' := upd nf N p4) (by rw [nI_clamp (n := N) (by omega)]) (br_f (by decide) ⟨vp_in_nI (by omega) (by omega), ⟨vp_in_nI (by omega) (by omega), nm_r (e' := upd k1 N (sk B)) (by rw [nI_clamp (n := N) (by omega), nI_clamp (n := B) (by omega)]) (br_f (by decide) ⟨pk_in (B + 1) 32 (by omega) (nI_add B 1), ⟨vp_in_nI (by omega) (by omega), nm_r (e' := upd k2 N (sk (B + 1))) (by rw [nI_clamp (n := N) (by omega), nI_1 B, nI_clamp (n := B + 1) (by omega)]) (br_t (by decide) ⟨vp_in_nI (by omega) (by omega), nm_r (e' := upd k3 N (0)) (by rw [nI_clamp (n := N) (by omega)]) ⟨vp_in_nI (by omega) (by omega), nm_r (e' := upd sk B (nI N)) (by rw [nI_clamp (n := B) (by omega)]) (nm_r (nI_1 B) h)⟩⟩)⟩⟩)⟩⟩)⟩⟩⟩⟩)
theorem xw_node3 {post : Int32 → SX → Prop} (hN : N < 32) (hB : B + 3 ≤ N) (h : post (nI N) (fu, ll, dl, nI (N + 1), nI (B + 1), hk, hv, ca, pk, st, ev, cu, ec, va, vc, dp, rc, upd nk N p0, upd nl N p1, upd n2 N p2, upd k1 N (sk B), upd k2 N (sk (B + 1)), upd k3 N (sk (B + 2)), upd nf N p4, upd sk B (nI N), en, fk, fn, fl, fm, iu, sl, sw, sm, rs)) : wpX_makeNode post (fu, ll, dl, nI N, nI (B + 3), hk, hv, ca, pk, st, ev, cu, ec, va, vc, dp, rc, nk, nl, n2, k1, k2, k3, nf, sk, en, fk, fn, fl, fm, iu, sl, sw, sm, rs) p0 p1 p2 3 p4 := by
  unfold wpX_makeNode
  refine nm_r (e' := nI B) ((pk_sub (a := B + 3) (b := 3) (by omega)).trans (congrArg nI (by omega))) (nm_r (nI_1 N) ⟨vp_in_nI (by omega) (by omega), nm_r (e' := upd nk N p0) (by rw [nI_clamp (n := N) (by omega)]) ⟨vp_in_nI (by omega) (by omega), nm_r (e' := upd nl N p1) (by rw [nI_clamp (n := N) (by omega)]) ⟨vp_in_nI (by omega) (by omega), nm_r (e' := upd n2 N p2) (by rw [nI_clamp (n := N) (by omega)]) ⟨vp_in_nI (by omega) (by omega), nm_r (e' := upd nf N p4) (by rw [nI_clamp (n := N) (by omega)]) (br_f (by decide) ⟨vp_in_nI (by omega) (by omega), ⟨vp_in_nI (by omega) (by omega), nm_r (e' := upd k1 N (sk B)) (by rw [nI_clamp (n := N) (by omega), nI_clamp (n := B) (by omega)]) (br_f (by decide) ⟨pk_in (B + 1) 32 (by omega) (nI_add B 1), ⟨vp_in_nI (by omega) (by omega), nm_r (e' := upd k2 N (sk (B + 1))) (by rw [nI_clamp (n := N) (by omega), nI_1 B, nI_clamp (n := B + 1) (by omega)]) (br_f (by decide) ⟨pk_in (B + 2) 32 (by omega) (nI_add B 2), ⟨vp_in_nI (by omega) (by omega), nm_r (e' := upd k3 N (sk (B + 2))) (by rw [nI_clamp (n := N) (by omega), show nI B + 2 = nI (B + 2) from nI_add B 2, nI_clamp (n := B + 2) (by omega)]) ⟨vp_in_nI (by omega) (by omega), nm_r (e' := upd sk B (nI N)) (by rw [nI_clamp (n := B) (by omega)]) (nm_r (nI_1 B) h)⟩⟩⟩)⟩⟩)⟩⟩)⟩⟩⟩⟩)
theorem xw_at {post : Int32 → Prop} {S j k i : Nat} (hS : S = j + 1 + k) (h32 : S ≤ 32) (e : sk j = nI i) (hi : i < 32) (h : post (nf i)) : wpX_freeAt post (fu, ll, dl, nc, nI S, hk, hv, ca, pk, st, ev, cu, ec, va, vc, dp, rc, nk, nl, n2, k1, k2, k3, nf, sk, en, fk, fn, fl, fm, iu, sl, sw, sm, rs) (nI k) := by
  have ej : nI S - 1 - nI k = nI j := by
    rw [hS, show (1 : Int32) = nI 1 from rfl, pk_sub (by omega), pk_sub (by omega)]
    exact congrArg nI (by omega)
  unfold wpX_freeAt
  dsimp only
  rw [ej, nI_clamp (n := j) (by omega), e, nI_clamp (n := i) (by omega)]
  exact ⟨vp_in_nI (by omega) (by omega), vp_in_nI (by omega) (by omega), h⟩
theorem xw_lam {post : Int32 → Prop} {S j k i : Nat} (hS : S = j + 1 + k) (h32 : S ≤ 32) (e : sk j = nI i) (hi : i < 32) (h1 : nk i = 2 → post 1) (h0 : ¬ nk i = 2 → post 0) : wpX_isLamAt post (fu, ll, dl, nc, nI S, hk, hv, ca, pk, st, ev, cu, ec, va, vc, dp, rc, nk, nl, n2, k1, k2, k3, nf, sk, en, fk, fn, fl, fm, iu, sl, sw, sm, rs) (nI k) := by
  have ej : nI S - 1 - nI k = nI j := by
    rw [hS, show (1 : Int32) = nI 1 from rfl, pk_sub (by omega), pk_sub (by omega)]
    exact congrArg nI (by omega)
  unfold wpX_isLamAt
  dsimp only
  rw [ej, nI_clamp (n := j) (by omega), e, nI_clamp (n := i) (by omega)]
  exact ⟨vp_in_nI (by omega) (by omega), vp_in_nI (by omega) (by omega), h1, h0⟩
end
section
variable {fu ll dl nc bs hK hV ca pk ct wt lc sp ye yc rK rV : Int32} {Nk Na N2 C1 C2 C3 Nf bk cl ck cv mk wk rm gk gn ge gv gp gq yk yv : Nat → Int32}
variable {N B : Nat} {q0 q1 q2 q3 q4 q5 q6 : Int32}
theorem yw_node {post : Int32 → SY → Prop} (hN : N < 32) (hB : B < 32) (h : post (nI N) (fu, ll, dl, nI (N + 1), nI (B + 1), hK, hV, ca, pk, ct, wt, lc, sp, ye, yc, rK, rV, upd Nk N q0, upd Na N q1, upd N2 N q2, upd C1 N q3, upd C2 N q4, upd C3 N q5, upd Nf N q6, upd bk B (nI N), cl, ck, cv, mk, wk, rm, gk, gn, ge, gv, gp, gq, yk, yv, 32768, 32768)) : wpY_addNode post (fu, ll, dl, nI N, nI B, hK, hV, ca, pk, ct, wt, lc, sp, ye, yc, rK, rV, Nk, Na, N2, C1, C2, C3, Nf, bk, cl, ck, cv, mk, wk, rm, gk, gn, ge, gv, gp, gq, yk, yv, 32768, 32768) q0 q1 q2 q3 q4 q5 q6 := by
  unfold wpY_addNode
  exact ⟨vp_in_nI (by omega) (by omega), nm_r (e' := upd Nk N q0) (by rw [nI_clamp (n := N) (by omega)]) ⟨vp_in_nI (by omega) (by omega), nm_r (e' := upd Na N q1) (by rw [nI_clamp (n := N) (by omega)]) ⟨vp_in_nI (by omega) (by omega), nm_r (e' := upd N2 N q2) (by rw [nI_clamp (n := N) (by omega)]) ⟨vp_in_nI (by omega) (by omega), nm_r (e' := upd C1 N q3) (by rw [nI_clamp (n := N) (by omega)]) ⟨vp_in_nI (by omega) (by omega), nm_r (e' := upd C2 N q4) (by rw [nI_clamp (n := N) (by omega)]) ⟨vp_in_nI (by omega) (by omega), nm_r (e' := upd C3 N q5) (by rw [nI_clamp (n := N) (by omega)]) ⟨vp_in_nI (by omega) (by omega), nm_r (e' := upd Nf N q6) (by rw [nI_clamp (n := N) (by omega)]) (nm_r (nI_1 N) (br_f (nI_ge (a := B) (b := 32) hB (by omega)) ⟨vp_in_nI (by omega) (by omega), nm_r (e' := upd bk B (nI N)) (by rw [nI_clamp (n := B) (by omega)]) (nm_r (nI_1 B) h)⟩))⟩⟩⟩⟩⟩⟩⟩
end
end
section
/-! ===== the relation between calls; construction; the pushes ===== -/
def i_Rel (_ : Nat) (u : SX) (v : SY) : Prop := sc_RL u v
theorem i_up {k : Nat} {u : SX} {v : SY} (h : i_Rel k u v) : i_Rel (k + 3) u v := h
theorem sc_clamp (x : Int32) (lo hi : Nat) (h : lo ≤ hi) (hh : hi < 2 ^ 31) : ∃ n, lo ≤ n ∧ n ≤ hi ∧ (∀ post : Int32 → Prop, post (nI n) → wpX_clamp post x (nI lo) (nI hi)) ∧ (∀ (post : Int32 → Prop) (u : SY), post (nI n) → wpY_clamp post u x (nI lo) (nI hi)) := by
  by_cases h1 : nI lo ≤ x
  · by_cases h2 : x ≤ nI hi
    · have h0 : ¬ x < 0 := Int32.not_lt.mpr (Int32.le_trans (nI_pos' (by omega)) h1)
      obtain ⟨j, hj, rfl⟩ := nI_of h0
      rw [nI_leI (by omega) hj] at h1
      rw [nI_leI hj hh] at h2
      refine ⟨j, h1, h2, fun post hp => br_t (nI_le h1 hj) (br_t (nI_le h2 hh) hp), fun post u hp => ?_⟩
      obtain ⟨_, _, _, _, _, _, _, _, _, _, _, _, _, _, _, _, _, _, _, _, _, _, _, _, _, _, _, _, _, _, _, _, _, _, _, _, _, _, _, _, _⟩ := u
      exact br_t (nI_le h1 hj) (br_t (nI_le h2 hh) hp)
    · refine ⟨hi, h, Nat.le_refl hi, fun post hp => br_t h1 (br_f h2 hp), fun post u hp => ?_⟩
      obtain ⟨_, _, _, _, _, _, _, _, _, _, _, _, _, _, _, _, _, _, _, _, _, _, _, _, _, _, _, _, _, _, _, _, _, _, _, _, _, _, _, _, _⟩ := u
      exact br_t h1 (br_f h2 hp)
  · refine ⟨lo, Nat.le_refl lo, h, fun post hp => br_f h1 hp, fun post u hp => ?_⟩
    obtain ⟨_, _, _, _, _, _, _, _, _, _, _, _, _, _, _, _, _, _, _, _, _, _, _, _, _, _, _, _, _, _, _, _, _, _, _, _, _, _, _, _, _⟩ := u
    exact br_f h1 hp
theorem i_vc0 (k0 : Int32) (k1 : Int32) (k2 : Int32) : wpX_init (fun u => wpY_init (fun v => i_Rel 3 u v) k0 k1 k2) k0 k1 k2 := by
  obtain ⟨F, f1, f2, fX, fY⟩ := sc_clamp k0 1 100 (by omega) (by omega)
  obtain ⟨L, l1, l2, lX, lY⟩ := sc_clamp k1 2 32 (by omega) (by omega)
  obtain ⟨D, d1, d2, dX, dY⟩ := sc_clamp k2 4 32 (by omega) (by omega)
  unfold wpX_init
  refine fX _ (lX _ (dX _ ?_))
  unfold wpY_init
  refine ⟨by decide, nm_r (e' := 32768) (by decide +kernel) ⟨Nat.le_refl _, by decide, nm_r (e' := 32768) (by decide +kernel) ⟨Nat.le_refl _, fY _ _ (lY _ _ (dY _ _ ?_))⟩⟩⟩
  exact sc_RLk (N := 0) (S := 0) (A := 0) (P := 0) (sz := fun _ => 0) (⟨⟨f1, f2, l2, d2, by omega, by omega, by omega, by omega⟩, fun i hi => absurd hi (Nat.not_lt_zero i), fun i hi => absurd hi (Nat.not_lt_zero i), rfl⟩) (Or.inl ⟨rfl, rfl, rfl, rfl⟩)
section
variable {fu ll dl nc ss hk hv ca pk st ev cu ec va vc dp rc : Int32} {nk nl n2 k1 k2 k3 nf sk en fk fn fl fm iu sl sw sm rs : Nat → Int32}
theorem xw_can {post : Int32 → Prop} {S N k : Nat} (hS : S ≤ 32) (hN : N ≤ 32) (hk3 : k ≤ 3) (h0 : S < k → post 0) (h1 : k ≤ S → 32 ≤ N → post 0) (h2 : k ≤ S → N < 32 → post 1) : wpX_canMake post (fu, ll, dl, nI N, nI S, hk, hv, ca, pk, st, ev, cu, ec, va, vc, dp, rc, nk, nl, n2, k1, k2, k3, nf, sk, en, fk, fn, fl, fm, iu, sl, sw, sm, rs) (nI k) := by
  unfold wpX_canMake
  exact pk_lt S k h0 (fun h => pk_le 32 N (fun h' => h1 h h') (fun h' => h2 h h'))
end
theorem xw_var {post : Int32 → Prop} {x : Int32} (h1 : ∀ j, j < 8 → x = nI j → post 1) (h0 : (x < 0 ∨ nI 8 ≤ x) → post 0) : wpX_isVariable post x := by
  unfold wpX_isVariable
  rcases pk_ix x (n := 8) (by omega) with h | h | ⟨j, hj, rfl⟩
  · exact br_t h (h0 (Or.inl h))
  · exact br_f (fun z => absurd (Int32.le_trans h (Int32.le_of_lt z)) (by decide)) (br_t h (h0 (Or.inr h)))
  · exact br_f (nI_pos (by omega)) (br_f (nI_ge (a := j) (b := 8) hj (by omega)) (h1 j hj rfl))
theorem sc_not8 {x : Int32} {A B : Prop} (h : x < 0 ∨ nI 8 ≤ x) (a : A) : (x < 0 → A) ∧ (¬ x < 0 → ((x ≤ 7 → B) ∧ (¬ x ≤ 7 → A))) := by
  refine br_c (fun _ => a) (fun h0 => br_f ?_ a)
  intro h7
  rcases h with h | h
  · exact h0 h
  · exact absurd (Int32.le_trans h h7) (by decide)
theorem sc_is8 {x : Nat} {A B : Prop} (h : x < 8) (b : B) : (nI x < 0 → A) ∧ (¬ nI x < 0 → ((nI x ≤ 7 → B) ∧ (¬ nI x ≤ 7 → A))) := br_f (nI_pos (by omega)) (br_t (nI_le (a := x) (b := 7) (by omega) (by omega)) b)
theorem sc_b1 (N : Nat) : nI (N + 1) - 1 = nI N := nI_pred N
theorem sc_b2 (N : Nat) : nI (N + 2) - 1 = nI (N + 1) ∧ nI (N + 2) - 2 = nI N := ⟨nI_pred (N + 1), (pk_sub (a := N + 2) (b := 2) (by omega)).trans (congrArg nI (by omega))⟩
theorem sc_b3 (N : Nat) : nI (N + 3) - 1 = nI (N + 2) ∧ nI (N + 3) - 2 = nI (N + 1) ∧ nI (N + 3) - 3 = nI N := ⟨nI_pred (N + 2), (pk_sub (a := N + 3) (b := 2) (by omega)).trans (congrArg nI (by omega)), (pk_sub (a := N + 3) (b := 3) (by omega)).trans (congrArg nI (by omega))⟩
theorem i_vc_pushNum {k : Nat} {u : SX} {v : SY} (I : i_Rel k u v) (hk : k + 3 ≤ 1539) (v1 : Int32) : wpX_pushNum (fun r u' => wpY_pushNum (fun r' v' => r' = r ∧ i_Rel (k + 3) u' v') v v1) u v1 := by
  have I0 := i_up I
  refine sc_RL_e I (fun hk hv st ev cu ec va vc dp rc hK hV ct wt lc yc rK rV nk nl n2 k1 k2 k3 nf sk en fk fn fl fm iu sl sw sm rs Nk N2 C1 C2 C3 cl ck cv mk wk rm gk gn ge gv gp gq yk yv sp ye F L D N S A P sz qu qv hB hD => ?_)
  clear I
  subst qu qv
  have hN := hB.1.2.2.2.2.1
  have hS := hB.1.2.2.2.2.2.1
  unfold wpX_pushNum
  refine xw_can (k := 0) (by omega) hN (by omega) (fun h => absurd h (Nat.not_lt_zero S)) (fun _ h => br_t rfl ?_) (fun _ h => br_f (by decide) (xw_node0 h (by omega) ?_))
  · unfold wpY_pushNum
    exact br_f (fun z => absurd ((nI_ltI (a := N) (b := 32) (by omega) (by omega)).mp z) (by omega)) ⟨rfl, I0⟩
  · unfold wpY_pushNum
    refine br_t (nI_lt (a := N) (b := 32) h (by omega)) (yw_node h (by omega) ⟨rfl, ?_⟩)
    exact sc_RLk (N := N + 1) (S := S + 1) (A := A) (P := P) (sz := _) (sc_BA_n (c := 0) (z := 1) hB h rfl ⟨⟨by dsimp only; rw [if_pos rfl]; omega, by dsimp only; rw [if_pos rfl]; omega⟩, Or.inl ⟨pk_us, pk_us⟩⟩) (sc_HD_n hD)
theorem i_vc_pushVar {k : Nat} {u : SX} {v : SY} (I : i_Rel k u v) (hk : k + 3 ≤ 1539) (v1 : Int32) : wpX_pushVar (fun r u' => wpY_pushVar (fun r' v' => r' = r ∧ i_Rel (k + 3) u' v') v v1) u v1 := by
  have I0 := i_up I
  refine sc_RL_e I (fun hk hv st ev cu ec va vc dp rc hK hV ct wt lc yc rK rV nk nl n2 k1 k2 k3 nf sk en fk fn fl fm iu sl sw sm rs Nk N2 C1 C2 C3 cl ck cv mk wk rm gk gn ge gv gp gq yk yv sp ye F L D N S A P sz qu qv hB hD => ?_)
  clear I
  subst qu qv
  have hN := hB.1.2.2.2.2.1
  have hS := hB.1.2.2.2.2.2.1
  unfold wpX_pushVar
  refine xw_var (fun x hx e => br_f (by decide) ?_) (fun h => br_t rfl ?_)
  · subst e
    refine xw_can (k := 0) (by omega) hN (by omega) (fun h => absurd h (Nat.not_lt_zero S)) (fun _ h => br_t rfl ?_) (fun _ h => br_f (by decide) (xw_node0 h (by omega) ?_))
    · unfold wpY_pushVar
      exact sc_is8 hx (br_f (fun z => absurd ((nI_ltI (a := N) (b := 32) (by omega) (by omega)).mp z) (by omega)) ⟨rfl, I0⟩)
    · unfold wpY_pushVar
      refine sc_is8 hx (br_t (nI_lt (a := N) (b := 32) h (by omega)) (yw_node h (by omega) ⟨rfl, ?_⟩))
      exact sc_RLk (N := N + 1) (S := S + 1) (A := A) (P := P) (sz := _) (sc_BA_n (c := 0) (z := 1) hB h rfl ⟨⟨by dsimp only; rw [if_pos rfl]; omega, by dsimp only; rw [if_pos rfl]; omega⟩, Or.inr (Or.inl ⟨pk_us, pk_us, x, hx, pk_us, by rw [pk_us, sc_sh1 x hx x (by omega)]; simp⟩)⟩) (sc_HD_n hD)
  · unfold wpY_pushVar
    exact sc_not8 h ⟨rfl, I0⟩
theorem i_vc_pushLam {k : Nat} {u : SX} {v : SY} (I : i_Rel k u v) (hk : k + 3 ≤ 1539) (v1 : Int32) : wpX_pushLam (fun r u' => wpY_pushLam (fun r' v' => r' = r ∧ i_Rel (k + 3) u' v') v v1) u v1 := by
  have I0 := i_up I
  refine sc_RL_e I (fun hk hv st ev cu ec va vc dp rc hK hV ct wt lc yc rK rV nk nl n2 k1 k2 k3 nf sk en fk fn fl fm iu sl sw sm rs Nk N2 C1 C2 C3 cl ck cv mk wk rm gk gn ge gv gp gq yk yv sp ye F L D N S A P sz qu qv hB hD => ?_)
  clear I
  subst qu qv
  have hN := hB.1.2.2.2.2.1
  have hS := hB.1.2.2.2.2.2.1
  unfold wpX_pushLam
  refine xw_var (fun x hx e => br_f (by decide) ?_) (fun h => br_t rfl ?_)
  · subst e
    refine xw_can (k := 1) (by omega) hN (by omega) (fun h => br_t rfl ?_) (fun h1 h => br_t rfl ?_) (fun h1 h => br_f (by decide) ?_)
    · unfold wpY_pushLam
      exact sc_is8 hx (br_t (show nI S = 0 from by rw [show S = 0 by omega]; rfl) ⟨rfl, I0⟩)
    · unfold wpY_pushLam
      exact sc_is8 hx (br_f (nI_ne0 (by omega) (by omega)) (br_f (fun z => absurd ((nI_ltI (a := N) (b := 32) (by omega) (by omega)).mp z) (by omega)) ⟨rfl, I0⟩))
    · obtain ⟨B, rfl⟩ : ∃ B, S = B + 1 := ⟨S - 1, by omega⟩
      obtain ⟨b, hb, eb⟩ := hB.2.2.1 B (by omega)
      have hz : sc_sum (fun j => sz (sk (B + j)).toNatClampNeg) 1 = sz b := by
        show 0 + sz (sk (B + 0)).toNatClampNeg = sz b
        rw [Nat.add_zero, eb, nI_clamp (by omega), Nat.zero_add]
      have hle : sz b ≤ N := by
        have := hB.2.2.2
        rw [sc_sum_add, hz] at this
        omega
      refine xw_at (k := 0) (j := B) (by omega) (by omega) eb (by omega) (nm_e (xw_node1 h (by omega) ?_))
      unfold wpY_pushLam
      dsimp only
      rw [sc_b1]
      refine sc_is8 hx (br_f (nI_ne0 (by omega) (by omega)) (br_t (nI_lt (a := N) (b := 32) h (by omega)) ⟨vp_in_nI (by omega) (by omega), nm_r (e' := nI b) (by rw [nI_clamp (by omega)]; exact eb) (nm_e ⟨vp_in_nI (by omega) (by omega), ?_⟩)⟩))
      rw [nI_clamp (n := b) (by omega), eb]
      refine yw_node h (by omega) ⟨rfl, ?_⟩
      refine sc_RLk (N := N + 1) (S := B + 1) (A := A) (P := P) (sz := _) (sc_BA_n (c := 1) (z := 1 + sz b) hB h (by rw [hz]) ⟨⟨by dsimp only; rw [if_pos rfl]; omega, by dsimp only; rw [if_pos rfl]; omega⟩, Or.inr (Or.inr (Or.inl ⟨pk_us, pk_us, x, b, hx, hb, pk_us, pk_us, pk_us, by dsimp only; rw [if_pos rfl, if_neg (show ¬ b = N by omega)], fun y hy hf hne => ?_⟩))⟩) (sc_HD_n hD)
      rw [pk_un (by omega)] at hf
      rw [pk_us, sc_bc hx (by omega), hf]
      simp [hne]
  · unfold wpY_pushLam
    exact sc_not8 h ⟨rfl, I0⟩
theorem i_vc_pushApp {k : Nat} {u : SX} {v : SY} (I : i_Rel k u v) (hk : k + 3 ≤ 1539) : wpX_pushApp (fun r u' => wpY_pushApp (fun r' v' => r' = r ∧ i_Rel (k + 3) u' v') v) u := by
  have I0 := i_up I
  refine sc_RL_e I (fun hk hv st ev cu ec va vc dp rc hK hV ct wt lc yc rK rV nk nl n2 k1 k2 k3 nf sk en fk fn fl fm iu sl sw sm rs Nk N2 C1 C2 C3 cl ck cv mk wk rm gk gn ge gv gp gq yk yv sp ye F L D N S A P sz qu qv hB hD => ?_)
  clear I
  subst qu qv
  have hN := hB.1.2.2.2.2.1
  have hS := hB.1.2.2.2.2.2.1
  unfold wpX_pushApp
  refine xw_can (k := 2) (by omega) hN (by omega) (fun h => br_t rfl ?_) (fun h1 h => br_t rfl ?_) (fun h1 h => br_f (by decide) ?_)
  · unfold wpY_pushApp
    exact br_f (nI_ge (a := S) (b := 2) h (by omega)) ⟨rfl, I0⟩
  · unfold wpY_pushApp
    exact br_t (nI_le (a := 2) (b := S) h1 (by omega)) (br_f (fun z => absurd ((nI_ltI (a := N) (b := 32) (by omega) (by omega)).mp z) (by omega)) ⟨rfl, I0⟩)
  · obtain ⟨B, rfl⟩ : ∃ B, S = B + 2 := ⟨S - 2, by omega⟩
    obtain ⟨a, ha, ea⟩ := hB.2.2.1 B (by omega)
    obtain ⟨b, hb, eb⟩ := hB.2.2.1 (B + 1) (by omega)
    have hz : sc_sum (fun j => sz (sk (B + j)).toNatClampNeg) 2 = sz a + sz b := by
      show 0 + sz (sk (B + 0)).toNatClampNeg + sz (sk (B + 1)).toNatClampNeg = sz a + sz b
      rw [Nat.add_zero, ea, eb, nI_clamp (by omega), nI_clamp (by omega), Nat.zero_add]
    have hle : sz a + sz b ≤ N := by
      have := hB.2.2.2
      rw [sc_sum_add, hz] at this
      omega
    obtain ⟨q1, q2⟩ := sc_b2 B
    refine xw_at (k := 1) (j := B) (by omega) (by omega) ea (by omega) (xw_at (k := 0) (j := B + 1) (by omega) (by omega) eb (by omega) (nm_e (xw_node2 h (by omega) ?_)))
    unfold wpY_pushApp
    dsimp only
    rw [q1, q2]
    refine br_t (nI_le (a := 2) (b := B + 2) h1 (by omega)) (br_t (nI_lt (a := N) (b := 32) h (by omega)) ⟨vp_in_nI (by omega) (by omega), nm_r (e' := nI b) (by rw [nI_clamp (by omega)]; exact eb) ⟨vp_in_nI (by omega) (by omega), nm_r (e' := nI a) (by rw [nI_clamp (by omega)]; exact ea) (nm_e ⟨vp_in_nI (by omega) (by omega), vp_in_nI (by omega) (by omega), ?_⟩)⟩⟩)
    rw [nI_clamp (n := a) (by omega), nI_clamp (n := b) (by omega), ea, eb]
    refine yw_node h (by omega) ⟨rfl, ?_⟩
    refine sc_RLk (N := N + 1) (S := B + 1) (A := A) (P := P) (sz := _) (sc_BA_n (c := 2) (z := 1 + (sz a + sz b)) hB h (by rw [hz]) ⟨⟨by dsimp only; rw [if_pos rfl]; omega, by dsimp only; rw [if_pos rfl]; omega⟩, Or.inr (Or.inr (Or.inr (Or.inl ⟨Or.inl ⟨pk_us, pk_us⟩, a, b, ha, hb, pk_us, pk_us, pk_us, pk_us, by dsimp only; rw [if_pos rfl, if_neg (show ¬ a = N by omega), if_neg (show ¬ b = N by omega)]; omega, fun y hy hf => ?_, fun y hy hf => ?_⟩)))⟩) (sc_HD_n hD)
    · rw [pk_un (by omega)] at hf
      rw [pk_us, b_or, hf, Bool.true_or]
    · rw [pk_un (by omega)] at hf
      rw [pk_us, b_or, hf, Bool.or_true]
theorem i_vc_pushPrim {k : Nat} {u : SX} {v : SY} (I : i_Rel k u v) (hk : k + 3 ≤ 1539) (v1 : Int32) : wpX_pushPrim (fun r u' => wpY_pushPrim (fun r' v' => r' = r ∧ i_Rel (k + 3) u' v') v v1) u v1 := by
  have I0 := i_up I
  refine sc_RL_e I (fun hk hv st ev cu ec va vc dp rc hK hV ct wt lc yc rK rV nk nl n2 k1 k2 k3 nf sk en fk fn fl fm iu sl sw sm rs Nk N2 C1 C2 C3 cl ck cv mk wk rm gk gn ge gv gp gq yk yv sp ye F L D N S A P sz qu qv hB hD => ?_)
  clear I
  subst qu qv
  have hN := hB.1.2.2.2.2.1
  have hS := hB.1.2.2.2.2.2.1
  unfold wpX_pushPrim
  by_cases g0 : v1 < 0
  · refine br_t g0 ?_
    unfold wpY_pushPrim
    exact br_t g0 ⟨rfl, I0⟩
  by_cases g4 : 4 < v1
  · refine br_f g0 (br_t g4 ?_)
    unfold wpY_pushPrim
    exact br_f g0 (br_f (Int32.not_le.mpr g4) ⟨rfl, I0⟩)
  refine br_f g0 (br_f g4 (xw_can (k := 2) (by omega) hN (by omega) (fun h => br_t rfl ?_) (fun h1 h => br_t rfl ?_) (fun h1 h => br_f (by decide) ?_)))
  · unfold wpY_pushPrim
    exact br_f g0 (br_t (Int32.not_lt.mp g4) (br_f (nI_ge (a := S) (b := 2) h (by omega)) ⟨rfl, I0⟩))
  · unfold wpY_pushPrim
    exact br_f g0 (br_t (Int32.not_lt.mp g4) (br_t (nI_le (a := 2) (b := S) h1 (by omega)) (br_f (fun z => absurd ((nI_ltI (a := N) (b := 32) (by omega) (by omega)).mp z) (by omega)) ⟨rfl, I0⟩)))
  · obtain ⟨B, rfl⟩ : ∃ B, S = B + 2 := ⟨S - 2, by omega⟩
    obtain ⟨a, ha, ea⟩ := hB.2.2.1 B (by omega)
    obtain ⟨b, hb, eb⟩ := hB.2.2.1 (B + 1) (by omega)
    have hz : sc_sum (fun j => sz (sk (B + j)).toNatClampNeg) 2 = sz a + sz b := by
      show 0 + sz (sk (B + 0)).toNatClampNeg + sz (sk (B + 1)).toNatClampNeg = sz a + sz b
      rw [Nat.add_zero, ea, eb, nI_clamp (by omega), nI_clamp (by omega), Nat.zero_add]
    have hle : sz a + sz b ≤ N := by
      have := hB.2.2.2
      rw [sc_sum_add, hz] at this
      omega
    obtain ⟨q1, q2⟩ := sc_b2 B
    refine xw_at (k := 1) (j := B) (by omega) (by omega) ea (by omega) (xw_at (k := 0) (j := B + 1) (by omega) (by omega) eb (by omega) (nm_e (xw_node2 h (by omega) ?_)))
    unfold wpY_pushPrim
    dsimp only
    rw [q1, q2]
    refine br_f g0 (br_t (Int32.not_lt.mp g4) (br_t (nI_le (a := 2) (b := B + 2) h1 (by omega)) (br_t (nI_lt (a := N) (b := 32) h (by omega)) ⟨vp_in_nI (by omega) (by omega), nm_r (e' := nI b) (by rw [nI_clamp (by omega)]; exact eb) ⟨vp_in_nI (by omega) (by omega), nm_r (e' := nI a) (by rw [nI_clamp (by omega)]; exact ea) (nm_e ⟨vp_in_nI (by omega) (by omega), vp_in_nI (by omega) (by omega), ?_⟩)⟩⟩)))
    rw [nI_clamp (n := a) (by omega), nI_clamp (n := b) (by omega), ea, eb]
    refine yw_node h (by omega) ⟨rfl, ?_⟩
    refine sc_RLk (N := N + 1) (S := B + 1) (A := A) (P := P) (sz := _) (sc_BA_n (c := 2) (z := 1 + (sz a + sz b)) hB h (by rw [hz]) ⟨⟨by dsimp only; rw [if_pos rfl]; omega, by dsimp only; rw [if_pos rfl]; omega⟩, Or.inr (Or.inr (Or.inr (Or.inl ⟨Or.inr ⟨pk_us, pk_us⟩, a, b, ha, hb, pk_us, pk_us, pk_us, pk_us, by dsimp only; rw [if_pos rfl, if_neg (show ¬ a = N by omega), if_neg (show ¬ b = N by omega)]; omega, fun y hy hf => ?_, fun y hy hf => ?_⟩)))⟩) (sc_HD_n hD)
    · rw [pk_un (by omega)] at hf
      rw [pk_us, b_or, hf, Bool.true_or]
    · rw [pk_un (by omega)] at hf
      rw [pk_us, b_or, hf, Bool.or_true]
theorem i_vc_pushLet {k : Nat} {u : SX} {v : SY} (I : i_Rel k u v) (hk : k + 3 ≤ 1539) (v1 : Int32) : wpX_pushLet (fun r u' => wpY_pushLet (fun r' v' => r' = r ∧ i_Rel (k + 3) u' v') v v1) u v1 := by
  have I0 := i_up I
  refine sc_RL_e I (fun hk hv st ev cu ec va vc dp rc hK hV ct wt lc yc rK rV nk nl n2 k1 k2 k3 nf sk en fk fn fl fm iu sl sw sm rs Nk N2 C1 C2 C3 cl ck cv mk wk rm gk gn ge gv gp gq yk yv sp ye F L D N S A P sz qu qv hB hD => ?_)
  clear I
  subst qu qv
  have hN := hB.1.2.2.2.2.1
  have hS := hB.1.2.2.2.2.2.1
  unfold wpX_pushLet
  refine xw_var (fun x hx e => br_f (by decide) ?_) (fun h => br_t rfl ?_)
  · subst e
    refine xw_can (k := 2) (by omega) hN (by omega) (fun h => br_t rfl ?_) (fun h1 h => br_t rfl ?_) (fun h1 h => br_f (by decide) ?_)
    · unfold wpY_pushLet
      exact sc_is8 hx (br_f (nI_ge (a := S) (b := 2) h (by omega)) ⟨rfl, I0⟩)
    · unfold wpY_pushLet
      exact sc_is8 hx (br_t (nI_le (a := 2) (b := S) h1 (by omega)) (br_f (fun z => absurd ((nI_ltI (a := N) (b := 32) (by omega) (by omega)).mp z) (by omega)) ⟨rfl, I0⟩))
    · obtain ⟨B, rfl⟩ : ∃ B, S = B + 2 := ⟨S - 2, by omega⟩
      obtain ⟨a, ha, ea⟩ := hB.2.2.1 B (by omega)
      obtain ⟨b, hb, eb⟩ := hB.2.2.1 (B + 1) (by omega)
      have hz : sc_sum (fun j => sz (sk (B + j)).toNatClampNeg) 2 = sz a + sz b := by
        show 0 + sz (sk (B + 0)).toNatClampNeg + sz (sk (B + 1)).toNatClampNeg = sz a + sz b
        rw [Nat.add_zero, ea, eb, nI_clamp (by omega), nI_clamp (by omega), Nat.zero_add]
      have hle : sz a + sz b ≤ N := by
        have := hB.2.2.2
        rw [sc_sum_add, hz] at this
        omega
      obtain ⟨q1, q2⟩ := sc_b2 B
      refine xw_at (k := 1) (j := B) (by omega) (by omega) ea (by omega) (xw_at (k := 0) (j := B + 1) (by omega) (by omega) eb (by omega) (nm_e (xw_node2 h (by omega) ?_)))
      unfold wpY_pushLet
      dsimp only
      rw [q1, q2]
      refine sc_is8 hx (br_t (nI_le (a := 2) (b := B + 2) h1 (by omega)) (br_t (nI_lt (a := N) (b := 32) h (by omega)) ⟨vp_in_nI (by omega) (by omega), nm_r (e' := nI b) (by rw [nI_clamp (by omega)]; exact eb) ⟨vp_in_nI (by omega) (by omega), nm_r (e' := nI a) (by rw [nI_clamp (by omega)]; exact ea) (nm_e ⟨vp_in_nI (by omega) (by omega), vp_in_nI (by omega) (by omega), ?_⟩)⟩⟩))
      rw [nI_clamp (n := a) (by omega), nI_clamp (n := b) (by omega), ea, eb]
      refine yw_node h (by omega) ⟨rfl, ?_⟩
      refine sc_RLk (N := N + 1) (S := B + 1) (A := A) (P := P) (sz := _) (sc_BA_n (c := 2) (z := 1 + (sz a + sz b)) hB h (by rw [hz]) ⟨⟨by dsimp only; rw [if_pos rfl]; omega, by dsimp only; rw [if_pos rfl]; omega⟩, Or.inr (Or.inr (Or.inr (Or.inr (Or.inr (Or.inl ⟨pk_us, pk_us, x, a, b, hx, ha, hb, pk_us, pk_us, pk_us, pk_us, pk_us, by dsimp only; rw [if_pos rfl, if_neg (show ¬ a = N by omega), if_neg (show ¬ b = N by omega)]; omega, fun y hy hf => ?_, fun y hy hf hne => ?_⟩)))))⟩) (sc_HD_n hD)
      · rw [pk_un (by omega)] at hf
        rw [pk_us, b_or, hf, Bool.true_or]
      · rw [pk_un (by omega)] at hf
        rw [pk_us, b_or, sc_bc hx (by omega), hf]
        simp [hne]
  · unfold wpY_pushLet
    exact sc_not8 h ⟨rfl, I0⟩
theorem i_vc_pushIf {k : Nat} {u : SX} {v : SY} (I : i_Rel k u v) (hk : k + 3 ≤ 1539) : wpX_pushIf (fun r u' => wpY_pushIf (fun r' v' => r' = r ∧ i_Rel (k + 3) u' v') v) u := by
  have I0 := i_up I
  refine sc_RL_e I (fun hk hv st ev cu ec va vc dp rc hK hV ct wt lc yc rK rV nk nl n2 k1 k2 k3 nf sk en fk fn fl fm iu sl sw sm rs Nk N2 C1 C2 C3 cl ck cv mk wk rm gk gn ge gv gp gq yk yv sp ye F L D N S A P sz qu qv hB hD => ?_)
  clear I
  subst qu qv
  have hN := hB.1.2.2.2.2.1
  have hS := hB.1.2.2.2.2.2.1
  unfold wpX_pushIf
  refine xw_can (k := 3) (by omega) hN (by omega) (fun h => br_t rfl ?_) (fun h1 h => br_t rfl ?_) (fun h1 h => br_f (by decide) ?_)
  · unfold wpY_pushIf
    exact br_f (nI_ge (a := S) (b := 3) h (by omega)) ⟨rfl, I0⟩
  · unfold wpY_pushIf
    exact br_t (nI_le (a := 3) (b := S) h1 (by omega)) (br_f (fun z => absurd ((nI_ltI (a := N) (b := 32) (by omega) (by omega)).mp z) (by omega)) ⟨rfl, I0⟩)
  · obtain ⟨B, rfl⟩ : ∃ B, S = B + 3 := ⟨S - 3, by omega⟩
    obtain ⟨a, ha, ea⟩ := hB.2.2.1 B (by omega)
    obtain ⟨b, hb, eb⟩ := hB.2.2.1 (B + 1) (by omega)
    obtain ⟨e, he, ee⟩ := hB.2.2.1 (B + 2) (by omega)
    have hz : sc_sum (fun j => sz (sk (B + j)).toNatClampNeg) 3 = sz a + sz b + sz e := by
      show 0 + sz (sk (B + 0)).toNatClampNeg + sz (sk (B + 1)).toNatClampNeg + sz (sk (B + 2)).toNatClampNeg = sz a + sz b + sz e
      rw [Nat.add_zero, ea, eb, ee, nI_clamp (by omega), nI_clamp (by omega), nI_clamp (by omega), Nat.zero_add]
    have hle : sz a + sz b + sz e ≤ N := by
      have := hB.2.2.2
      rw [sc_sum_add, hz] at this
      omega
    obtain ⟨q1, q2, q3⟩ := sc_b3 B
    refine xw_at (k := 2) (j := B) (by omega) (by omega) ea (by omega) (xw_at (k := 1) (j := B + 1) (by omega) (by omega) eb (by omega) (xw_at (k := 0) (j := B + 2) (by omega) (by omega) ee (by omega) (nm_e (xw_node3 h (by omega) ?_))))
    unfold wpY_pushIf
    dsimp only
    rw [q1, q2, q3]
    refine br_t (nI_le (a := 3) (b := B + 3) h1 (by omega)) (br_t (nI_lt (a := N) (b := 32) h (by omega)) ⟨vp_in_nI (by omega) (by omega), nm_r (e' := nI e) (by rw [nI_clamp (by omega)]; exact ee) ⟨vp_in_nI (by omega) (by omega), nm_r (e' := nI b) (by rw [nI_clamp (by omega)]; exact eb) ⟨vp_in_nI (by omega) (by omega), nm_r (e' := nI a) (by rw [nI_clamp (by omega)]; exact ea) (nm_e ⟨vp_in_nI (by omega) (by omega), vp_in_nI (by omega) (by omega), vp_in_nI (by omega) (by omega), ?_⟩)⟩⟩⟩)
    rw [nI_clamp (n := a) (by omega), nI_clamp (n := b) (by omega), nI_clamp (n := e) (by omega), ea, eb, ee]
    refine yw_node h (by omega) ⟨rfl, ?_⟩
    refine sc_RLk (N := N + 1) (S := B + 1) (A := A) (P := P) (sz := _) (sc_BA_n (c := 3) (z := 1 + (sz a + sz b + sz e)) hB h (by rw [hz]) ⟨⟨by dsimp only; rw [if_pos rfl]; omega, by dsimp only; rw [if_pos rfl]; omega⟩, Or.inr (Or.inr (Or.inr (Or.inr (Or.inl ⟨pk_us, pk_us, a, b, e, ha, hb, he, pk_us, pk_us, pk_us, pk_us, pk_us, pk_us, by dsimp only; rw [if_pos rfl, if_neg (show ¬ a = N by omega), if_neg (show ¬ b = N by omega), if_neg (show ¬ e = N by omega)]; omega, fun y hy hf => ?_, fun y hy hf => ?_, fun y hy hf => ?_⟩))))⟩) (sc_HD_n hD)
    · rw [pk_un (by omega)] at hf
      rw [pk_us, b_or, b_or, hf, Bool.true_or, Bool.true_or]
    · rw [pk_un (by omega)] at hf
      rw [pk_us, b_or, b_or, hf, Bool.or_true, Bool.true_or]
    · rw [pk_un (by omega)] at hf
      rw [pk_us, b_or, b_or, hf, Bool.or_true]
end
section
/-! ===== pushLetrec ===== -/
theorem sc_fv2 (a b e p q : Int32) : ((a ||| e) ||| b) &&& ((p ||| q) ^^^ (-1)) = (((a ||| b) ||| e) &&& (p ^^^ (-1))) &&& (q ^^^ (-1)) := by
  apply b_ext
  intro i hi
  simp only [b_and, b_or, b_xor, b_m1 i hi]
  cases bt a i <;> cases bt b i <;> cases bt e i <;> cases bt p i <;> cases bt q i <;> rfl
theorem sc_nd_l {sz : Nat → Nat} {kd lb s2 c1 c2 c3 fv kd' a2' c1' c2' c3' : Nat → Int32} {i : Nat} (h : sc_nd sz kd lb s2 c1 c2 c3 fv kd' a2' c1' c2' c3' i) : kd i = 2 ↔ kd' i = 3 := by
  obtain ⟨_, h⟩ := h
  rcases h with h | h | h | h | h | h | h | h
  · rw [h.1, h.2]; decide
  · rw [h.1, h.2.1]; decide
  · rw [h.1, h.2.1]; decide
  · rcases h.1 with h | h <;> rw [h.1, h.2] <;> decide
  · rw [h.1, h.2.1]; decide
  · rw [h.1, h.2.1]; decide
  · rw [h.1, h.2.1]; decide
  · rw [h.1, h.2.1]; decide
theorem i_vc_pushLetrec {k : Nat} {u : SX} {v : SY} (I : i_Rel k u v) (hk : k + 3 ≤ 1539) (v1 : Int32) (v2 : Int32) : wpX_pushLetrec (fun r u' => wpY_pushLetrec (fun r' v' => r' = r ∧ i_Rel (k + 3) u' v') v v1 v2) u v1 v2 := by
  have I0 := i_up I
  refine sc_RL_e I (fun hk hv st ev cu ec va vc dp rc hK hV ct wt lc yc rK rV nk nl n2 k1 k2 k3 nf sk en fk fn fl fm iu sl sw sm rs Nk N2 C1 C2 C3 cl ck cv mk wk rm gk gn ge gv gp gq yk yv sp ye F L D N S A P sz qu qv hB hD => ?_)
  clear I
  subst qu qv
  have hN := hB.1.2.2.2.2.1
  have hS := hB.1.2.2.2.2.2.1
  unfold wpX_pushLetrec
  refine xw_var (fun x hx e => br_f (by decide) ?_) (fun h => br_t rfl ?_)
  rotate_left
  · unfold wpY_pushLetrec
    exact sc_not8 h ⟨rfl, I0⟩
  subst e
  by_cases h2 : v2 = -1
  · subst h2
    refine br_t rfl ?_
    have hne : ¬ (-1 : Int32) = nI x := fun z => absurd (show nI x < 0 by rw [← z]; decide) (nI_pos (by omega))
    unfold wpX_pushLetrecOne
    refine xw_can (k := 2) (by omega) hN (by omega) (fun h => br_t rfl ?_) (fun h1 h => br_t rfl ?_) (fun h1 h => br_f (by decide) ?_)
    · exact sc_is8 hx (br_t rfl (br_t rfl (br_f hne (br_t rfl (br_f (nI_ge (a := S) (b := 2) h (by omega)) ⟨rfl, I0⟩)))))
    · obtain ⟨B, rfl⟩ : ∃ B, S = B + 2 := ⟨S - 2, by omega⟩
      obtain ⟨a, ha, ea⟩ := hB.2.2.1 B (by omega)
      obtain ⟨b, hb, eb⟩ := hB.2.2.1 (B + 1) (by omega)
      obtain ⟨q1, q2⟩ := sc_b2 B
      refine sc_is8 hx (br_t rfl (br_t rfl (br_f hne (br_t rfl (br_t (nI_le (a := 2) (b := B + 2) h1 (by omega)) ⟨pk_in (B + 1) 32 (by omega) q1, nm_r (e' := nI b) (by rw [q1, nI_clamp (by omega)]; exact eb) (br_t rfl ⟨pk_in B 32 (by omega) q2, nm_r (e' := nI a) (by rw [q2, nI_clamp (by omega)]; exact ea) ⟨vp_in_nI (by omega) (by omega), br_c (fun _ => br_t rfl (br_f (fun z => absurd ((nI_ltI (a := N) (b := 32) (by omega) (by omega)).mp z) (by omega)) ⟨rfl, I0⟩)) (fun _ => ⟨rfl, I0⟩)⟩⟩)⟩)))))
    · obtain ⟨B, rfl⟩ : ∃ B, S = B + 2 := ⟨S - 2, by omega⟩
      obtain ⟨a, ha, ea⟩ := hB.2.2.1 B (by omega)
      obtain ⟨b, hb, eb⟩ := hB.2.2.1 (B + 1) (by omega)
      obtain ⟨q1, q2⟩ := sc_b2 B
      have hl := sc_nd_l (hB.2.1 a ha)
      refine xw_lam (k := 1) (j := B) (by omega) (by omega) ea (by omega) (fun hlam => br_f (by decide) ?_) (fun hlam => br_t rfl ?_)
      rotate_left
      · exact sc_is8 hx (br_t rfl (br_t rfl (br_f hne (br_t rfl (br_t (nI_le (a := 2) (b := B + 2) h1 (by omega)) ⟨pk_in (B + 1) 32 (by omega) q1, nm_r (e' := nI b) (by rw [q1, nI_clamp (by omega)]; exact eb) (br_t rfl ⟨pk_in B 32 (by omega) q2, nm_r (e' := nI a) (by rw [q2, nI_clamp (by omega)]; exact ea) ⟨vp_in_nI (by omega) (by omega), br_f (by rw [nI_clamp (by omega)]; exact fun z => hlam (hl.mpr z)) ⟨rfl, I0⟩⟩⟩)⟩)))))
      have hz : sc_sum (fun j => sz (sk (B + j)).toNatClampNeg) 2 = sz a + sz b := by
        show 0 + sz (sk (B + 0)).toNatClampNeg + sz (sk (B + 1)).toNatClampNeg = sz a + sz b
        rw [Nat.add_zero, ea, eb, nI_clamp (by omega), nI_clamp (by omega), Nat.zero_add]
      have hle : sz a + sz b ≤ N := by
        have := hB.2.2.2
        rw [sc_sum_add, hz] at this
        omega
      refine xw_at (k := 1) (j := B) (by omega) (by omega) ea (by omega) (xw_at (k := 0) (j := B + 1) (by omega) (by omega) eb (by omega) (nm_e (xw_node2 h (by omega) ?_)))
      refine sc_is8 hx (br_t rfl (br_t rfl (br_f hne (br_t rfl (br_t (nI_le (a := 2) (b := B + 2) h1 (by omega)) ⟨pk_in (B + 1) 32 (by omega) q1, nm_r (e' := nI b) (by rw [q1, nI_clamp (by omega)]; exact eb) (br_t rfl ⟨pk_in B 32 (by omega) q2, nm_r (e' := nI a) (by rw [q2, nI_clamp (by omega)]; exact ea) ⟨vp_in_nI (by omega) (by omega), br_t (by rw [nI_clamp (by omega)]; exact hl.mp hlam) (br_t rfl (br_t (nI_lt (a := N) (b := 32) h (by omega)) (nm_r q2 (nm_e ⟨vp_in_nI (by omega) (by omega), vp_in_nI (by omega) (by omega), nm_r (e' := nf a ||| nf b) (by rw [nI_clamp (n := a) (by omega), nI_clamp (n := b) (by omega)]) (br_t rfl ?_)⟩))))⟩⟩)⟩)))))
      unfold wY_pushLetrec_214
      rw [ea, eb]
      refine yw_node h (by omega) ⟨rfl, ?_⟩
      refine sc_RLk (N := N + 1) (S := B + 1) (A := A) (P := P) (sz := _) (sc_BA_n (c := 2) (z := 1 + (sz a + sz b)) hB h (by rw [hz]) ⟨⟨by dsimp only; rw [if_pos rfl]; omega, by dsimp only; rw [if_pos rfl]; omega⟩, Or.inr (Or.inr (Or.inr (Or.inr (Or.inr (Or.inr (Or.inl ⟨pk_us, pk_us, x, a, b, hx, ha, hb, pk_us, by rw [pk_un (by omega)]; exact hlam, pk_us, pk_us, pk_us, pk_us, pk_us, by dsimp only; rw [if_pos rfl, if_neg (show ¬ a = N by omega), if_neg (show ¬ b = N by omega)]; omega, fun y hy hf hne => ?_, fun y hy hf hne => ?_⟩))))))⟩) (sc_HD_n hD)
      · rw [pk_un (by omega)] at hf
        rw [pk_us, sc_bc hx (by omega), b_or, hf, Bool.true_or]
        simp [hne]
      · rw [pk_un (by omega)] at hf
        rw [pk_us, sc_bc hx (by omega), b_or, hf, Bool.or_true]
        simp [hne]
  · refine br_f h2 (xw_var (fun z hz8 e => br_f (by decide) ?_) (fun h => br_t rfl ?_))
    rotate_left
    · refine sc_is8 hx (br_f h2 (br_f (by decide) (sc_not8 h ⟨rfl, I0⟩)))
    subst e
    have zz : ∀ {A B : Prop}, B → (nI z < 0 → A) ∧ (¬ nI z < 0 → ((nI z ≤ 7 → B) ∧ (¬ nI z ≤ 7 → A))) := fun b => sc_is8 hz8 b
    by_cases hzx : nI z = nI x
    · refine br_t hzx ?_
      exact sc_is8 hx (br_f h2 (br_f (by decide) (zz (br_t hzx ⟨rfl, I0⟩))))
    · refine br_f hzx ?_
      have nzx : x ≠ z := fun e => hzx (by rw [e])
      unfold wpX_pushLetrecTwo
      refine xw_can (k := 3) (by omega) hN (by omega) (fun h => br_t rfl ?_) (fun h1 h => br_t rfl ?_) (fun h1 h => br_f (by decide) ?_)
      · exact sc_is8 hx (br_f h2 (br_f (by decide) (zz (br_f hzx (br_f (by decide) (br_f (nI_ge (a := S) (b := 3) h (by omega)) ⟨rfl, I0⟩))))))
      · obtain ⟨B, rfl⟩ : ∃ B, S = B + 3 := ⟨S - 3, by omega⟩
        obtain ⟨a, ha, ea⟩ := hB.2.2.1 B (by omega)
        obtain ⟨b, hb, eb⟩ := hB.2.2.1 (B + 1) (by omega)
        obtain ⟨e, he, ee⟩ := hB.2.2.1 (B + 2) (by omega)
        obtain ⟨q1, q2, q3⟩ := sc_b3 B
        exact sc_is8 hx (br_f h2 (br_f (by decide) (zz (br_f hzx (br_f (by decide) (br_t (nI_le (a := 3) (b := B + 3) h1 (by omega)) ⟨pk_in (B + 2) 32 (by omega) q1, nm_r (e' := nI e) (by rw [q1, nI_clamp (by omega)]; exact ee) (br_f (by decide) ⟨pk_in (B + 1) 32 (by omega) q2, pk_in B 32 (by omega) q3, nm_r (e' := nI a) (by rw [q3, nI_clamp (by omega)]; exact ea) ⟨vp_in_nI (by omega) (by omega), br_c (fun _ => br_f (by decide) ⟨by rw [q2, nI_clamp (n := B + 1) (by omega), eb]; exact vp_in_nI (by omega) (by omega), br_c (fun _ => br_f (fun z => absurd ((nI_ltI (a := N) (b := 32) (by omega) (by omega)).mp z) (by omega)) ⟨rfl, I0⟩) (fun _ => ⟨rfl, I0⟩)⟩) (fun _ => ⟨rfl, I0⟩)⟩⟩)⟩))))))
      · obtain ⟨B, rfl⟩ : ∃ B, S = B + 3 := ⟨S - 3, by omega⟩
        obtain ⟨a, ha, ea⟩ := hB.2.2.1 B (by omega)
        obtain ⟨b, hb, eb⟩ := hB.2.2.1 (B + 1) (by omega)
        obtain ⟨e, he, ee⟩ := hB.2.2.1 (B + 2) (by omega)
        obtain ⟨q1, q2, q3⟩ := sc_b3 B
        have hl := sc_nd_l (hB.2.1 a ha)
        have hm := sc_nd_l (hB.2.1 b hb)
        have Yh : ∀ post : Int32 → SY → Prop, ((Nk a = 3 → (Nk b = 3 → wY_pushLetrec_146 post (nI x) (nI z) 1 3 (nI e) (nI b) (nI a) (nI F) (nI L) (nI D) (nI N) (nI (B + 3)) hK hV (nI A) (nI P) ct wt lc sp ye yc rK rV Nk nl N2 C1 C2 C3 nf sk cl ck cv mk wk rm gk gn ge gv gp gq yk yv 32768 32768) ∧ (¬ Nk b = 3 → post (-1) (nI F, nI L, nI D, nI N, nI (B + 3), hK, hV, nI A, nI P, ct, wt, lc, sp, ye, yc, rK, rV, Nk, nl, N2, C1, C2, C3, nf, sk, cl, ck, cv, mk, wk, rm, gk, gn, ge, gv, gp, gq, yk, yv, 32768, 32768))) ∧ (¬ Nk a = 3 → post (-1) (nI F, nI L, nI D, nI N, nI (B + 3), hK, hV, nI A, nI P, ct, wt, lc, sp, ye, yc, rK, rV, Nk, nl, N2, C1, C2, C3, nf, sk, cl, ck, cv, mk, wk, rm, gk, gn, ge, gv, gp, gq, yk, yv, 32768, 32768))) → wpY_pushLetrec post (nI F, nI L, nI D, nI N, nI (B + 3), hK, hV, nI A, nI P, ct, wt, lc, sp, ye, yc, rK, rV, Nk, nl, N2, C1, C2, C3, nf, sk, cl, ck, cv, mk, wk, rm, gk, gn, ge, gv, gp, gq, yk, yv, 32768, 32768) (nI x) (nI z) := by
          intro post hp
          have eb' : sk (nI (B + 3) - 2).toNatClampNeg = nI b := by rw [q2, nI_clamp (by omega)]; exact eb
          refine sc_is8 hx (br_f h2 (br_f (by decide) (zz (br_f hzx (br_f (by decide) (br_t (nI_le (a := 3) (b := B + 3) h1 (by omega)) ⟨pk_in (B + 2) 32 (by omega) q1, nm_r (e' := nI e) (by rw [q1, nI_clamp (by omega)]; exact ee) (br_f (by decide) ⟨pk_in (B + 1) 32 (by omega) q2, ?_⟩)⟩))))))
          rw [eb']
          refine ⟨pk_in B 32 (by omega) q3, nm_r (e' := nI a) (by rw [q3, nI_clamp (by omega)]; exact ea) ⟨vp_in_nI (by omega) (by omega), ?_⟩⟩
          rw [nI_clamp (n := a) (by omega), nI_clamp (n := b) (by omega)]
          exact br_c (fun z1 => br_f (by decide) ⟨vp_in_nI (by omega) (by omega), (hp.1 z1).1, (hp.1 z1).2⟩) hp.2
        refine xw_lam (k := 2) (j := B) (by omega) (by omega) ea (by omega) (fun hlam => br_f (by decide) ?_) (fun hlam => br_t rfl ?_)
        rotate_left
        · exact Yh _ ⟨fun z1 => absurd (hl.mpr z1) hlam, fun _ => ⟨rfl, I0⟩⟩
        refine xw_lam (k := 1) (j := B + 1) (by omega) (by omega) eb (by omega) (fun hlam2 => br_f (by decide) ?_) (fun hlam2 => br_t rfl ?_)
        rotate_left
        · exact Yh _ ⟨fun _ => ⟨fun z1 => absurd (hm.mpr z1) hlam2, fun _ => ⟨rfl, I0⟩⟩, fun z1 => absurd (hl.mp hlam) z1⟩
        have hz : sc_sum (fun j => sz (sk (B + j)).toNatClampNeg) 3 = sz a + sz b + sz e := by
          show 0 + sz (sk (B + 0)).toNatClampNeg + sz (sk (B + 1)).toNatClampNeg + sz (sk (B + 2)).toNatClampNeg = sz a + sz b + sz e
          rw [Nat.add_zero, ea, eb, ee, nI_clamp (by omega), nI_clamp (by omega), nI_clamp (by omega), Nat.zero_add]
        have hle : sz a + sz b + sz e ≤ N := by
          have := hB.2.2.2
          rw [sc_sum_add, hz] at this
          omega
        refine xw_at (k := 2) (j := B) (by omega) (by omega) ea (by omega) (xw_at (k := 1) (j := B + 1) (by omega) (by omega) eb (by omega) (xw_at (k := 0) (j := B + 2) (by omega) (by omega) ee (by omega) (nm_e (xw_node3 h (by omega) ?_))))
        refine Yh _ ⟨fun _ => ⟨fun _ => ?_, fun z1 => absurd (hm.mp hlam2) z1⟩, fun z1 => absurd (hl.mp hlam) z1⟩
        unfold wY_pushLetrec_146
        refine br_t (nI_lt (a := N) (b := 32) h (by omega)) (nm_r q3 (nm_e ⟨vp_in_nI (by omega) (by omega), vp_in_nI (by omega) (by omega), nm_r (e' := nf a ||| nf e) (by rw [nI_clamp (n := a) (by omega), nI_clamp (n := e) (by omega)]) (br_f (by decide) (nm_e ⟨vp_in_nI (by omega) (by omega), nm_r (e' := (nf a ||| nf e) ||| nf b) (by rw [nI_clamp (n := b) (by omega)]) ?_⟩))⟩))
        unfold wY_pushLetrec_214
        rw [sc_fv2, ea, eb, ee]
        refine yw_node h (by omega) ⟨rfl, ?_⟩
        refine sc_RLk (N := N + 1) (S := B + 1) (A := A) (P := P) (sz := _) (sc_BA_n (c := 3) (z := 1 + (sz a + sz b + sz e)) hB h (by rw [hz]) ⟨⟨by dsimp only; rw [if_pos rfl]; omega, by dsimp only; rw [if_pos rfl]; omega⟩, Or.inr (Or.inr (Or.inr (Or.inr (Or.inr (Or.inr (Or.inr ⟨pk_us, pk_us, x, z, a, b, e, hx, hz8, nzx, ha, hb, he, pk_us, pk_us, pk_us, by rw [pk_un (by omega)]; exact hlam, by rw [pk_un (by omega)]; exact hlam2, pk_us, pk_us, pk_us, pk_us, pk_us, pk_us, by dsimp only; rw [if_pos rfl, if_neg (show ¬ a = N by omega), if_neg (show ¬ b = N by omega), if_neg (show ¬ e = N by omega)]; omega, fun y hy hf n1 n2 => ?_, fun y hy hf n1 n2 => ?_, fun y hy hf n1 n2 => ?_⟩))))))⟩) (sc_HD_n hD)
        · rw [pk_un (by omega)] at hf
          rw [pk_us, sc_bc hz8 (by omega), sc_bc hx (by omega), b_or, b_or, hf]
          simp [n1, n2]
        · rw [pk_un (by omega)] at hf
          rw [pk_us, sc_bc hz8 (by omega), sc_bc hx (by omega), b_or, b_or, hf]
          simp [n1, n2]
        · rw [pk_un (by omega)] at hf
          rw [pk_us, sc_bc hz8 (by omega), sc_bc hx (by omega), b_or, b_or, hf]
          simp [n1, n2]
end
section
/-! ===== the reference's compaction ===== -/
/-- how many of mk are set below i -/
def sc_ct (mk : Nat → Int32) : Nat → Nat
  | 0 => 0
  | i + 1 => sc_ct mk i + (if mk i = 0 then 0 else 1)
theorem sc_ct_le (mk : Nat → Int32) : ∀ i, sc_ct mk i ≤ i := by
  intro i
  induction i with
  | zero => exact Nat.le_refl 0
  | succ i ih =>
    show sc_ct mk i + (if mk i = 0 then 0 else 1) ≤ i + 1
    split <;> omega
theorem sc_ct_m (mk : Nat → Int32) {k : Nat} : ∀ i, k ≤ i → sc_ct mk k ≤ sc_ct mk i := by
  intro i
  induction i with
  | zero =>
    intro h
    have : k = 0 := by omega
    subst this
    exact Nat.le_refl _
  | succ i ih =>
    intro h
    show sc_ct mk k ≤ sc_ct mk i + (if mk i = 0 then 0 else 1)
    by_cases e : k = i + 1
    · subst e
      exact Nat.le_refl _
    · have := ih (by omega)
      split <;> omega
theorem sc_ct_s {mk : Nat → Int32} {i : Nat} (h : ¬ mk i = 0) : sc_ct mk (i + 1) = sc_ct mk i + 1 := by
  show sc_ct mk i + (if mk i = 0 then 0 else 1) = _
  rw [if_neg h]
theorem sc_ct_z {mk : Nat → Int32} {i : Nat} (h : mk i = 0) : sc_ct mk (i + 1) = sc_ct mk i := by
  show sc_ct mk i + (if mk i = 0 then 0 else 1) = _
  rw [if_pos h]
  rfl
theorem sc_ct_l {mk : Nat → Int32} {k i : Nat} (h : ¬ mk k = 0) (hk : k < i) : sc_ct mk k < sc_ct mk i := by
  have := sc_ct_m mk i (show k + 1 ≤ i from hk)
  rw [sc_ct_s h] at this
  omega
theorem sc_ct_i {mk : Nat → Int32} {k i : Nat} (h : ¬ mk k = 0) (h' : ¬ mk i = 0) (e : sc_ct mk k = sc_ct mk i) : k = i := by
  rcases Nat.lt_trichotomy k i with z | z | z
  · have := sc_ct_l h z
    omega
  · exact z
  · have := sc_ct_l h' z
    omega
theorem sc_ct_in {mk : Nat → Int32} : ∀ {T r : Nat}, r < sc_ct mk T → ∃ k, k < T ∧ ¬ mk k = 0 ∧ sc_ct mk k = r := by
  intro T
  induction T with
  | zero => intro r h; exact absurd h (Nat.not_lt_zero r)
  | succ T ih =>
    intro r h
    by_cases z : mk T = 0
    · rw [sc_ct_z z] at h
      obtain ⟨k, h1, h2⟩ := ih h
      exact ⟨k, by omega, h2⟩
    · rw [sc_ct_s z] at h
      by_cases e : r = sc_ct mk T
      · exact ⟨T, by omega, z, e.symm⟩
      · obtain ⟨k, h1, h2⟩ := ih (show r < sc_ct mk T by omega)
        exact ⟨k, by omega, h2⟩
theorem sc_wr_k {a : Nat → Int32} {b i : Nat} {f : Nat → Int32} (h : f i = a (b + i)) : sc_wr a b f i = sc_wr a b f (i + 1) := by
  funext j
  unfold sc_wr
  by_cases e : j = b + i
  · subst e
    rw [if_neg (by omega), if_pos (by omega), ← h]
    exact congrArg f (by omega)
  · by_cases z : b ≤ j ∧ j < b + i
    · rw [if_pos z, if_pos (by omega)]
    · rw [if_neg z, if_neg (by omega)]
/-- a reference to a closure after it has moved -/
def sc_tr (rm ck cv : Nat → Int32) (p : Nat) : Int32 := if ck p = 2 ∧ ¬ cv p < 0 ∧ ¬ 4096 ≤ cv p then rm (cv p).toNatClampNeg else cv p
section
variable {fu ll dl nc bs hK hV ca pk ct wt lc sp ye yc rK rV : Int32} {Nk Na N2 C1 C2 C3 Nf bk cl ck cv mk wk rm gk gn ge gv gp gq yk yv : Nat → Int32}
theorem yw_cp {post : SY → Prop} {J21 : Int32 → Int32 → (Nat → Int32) → (Nat → Int32) → (Nat → Int32) → (Nat → Int32) → (Nat → Int32) → (Nat → Int32) → (Nat → Int32) → (Nat → Int32) → (Nat → Int32) → (Nat → Int32) → (Nat → Int32) → (Nat → Int32) → (Nat → Int32) → (Nat → Int32) → (Nat → Int32) → (Nat → Int32) → (Nat → Int32) → (Nat → Int32) → (Nat → Int32) → (Nat → Int32) → (Nat → Int32) → (Nat → Int32) → Prop} {i j : Nat} (hi : i < 4096) (hj : j ≤ i) (h : J21 (nI (j + 1)) (nI (i + 1)) Nk Na N2 C1 C2 C3 Nf bk cl (sc_wr ck (j * 8) (fun y => ck (i * 8 + y)) 8) (sc_wr cv (j * 8) (fun y => cv (i * 8 + y)) 8) mk wk rm gk gn ge gv gp gq yk yv) : ∀ d t, t + d = 8 → wY_compact_59 post J21 (nI j) (nI i) fu ll dl nc bs hK hV ca pk ct wt lc sp ye yc rK rV 32768 32768 (d + 1) (nI t) Nk Na N2 C1 C2 C3 Nf bk cl (sc_wr ck (j * 8) (fun y => ck (i * 8 + y)) t) (sc_wr cv (j * 8) (fun y => cv (i * 8 + y)) t) mk wk rm gk gn ge gv gp gq yk yv := by
  have rd : ∀ (a : Nat → Int32) (t : Nat), t < 8 → sc_wr a (j * 8) (fun y => a (i * 8 + y)) t (i * 8 + t) = a (i * 8 + t) := fun a t ht => sc_wr_o (by omega)
  intro d
  induction d with
  | zero =>
    intro t ht
    have : t = 8 := by omega
    subst this
    exact br_t (nI_le (a := 8) (b := 8) (by omega) (by omega)) (nm_r (nI_1 j) (nm_r (nI_1 i) h))
  | succ d ih =>
    intro t ht
    refine br_f (nI_ge (a := t) (b := 8) (by omega) (by omega)) ⟨pk_in (i * 8 + t) 32768 (by omega) (sc_a8 i t), pk_in (j * 8 + t) 32768 (by omega) (sc_a8 j t), ?_⟩
    refine nm_r (e' := sc_wr ck (j * 8) (fun y => ck (i * 8 + y)) (t + 1)) (sc_wr_u (sc_c8 (by omega)) (by rw [sc_c8 (by omega)]; exact rd ck t (by omega))) ⟨pk_in (i * 8 + t) 32768 (by omega) (sc_a8 i t), pk_in (j * 8 + t) 32768 (by omega) (sc_a8 j t), ?_⟩
    refine nm_r (e' := sc_wr cv (j * 8) (fun y => cv (i * 8 + y)) (t + 1)) (sc_wr_u (sc_c8 (by omega)) (by rw [sc_c8 (by omega)]; exact rd cv t (by omega))) ?_
    exact nm_r (nI_1 t) (ih (t + 1) (by omega))
theorem yw_mv {T : Nat} (hT : T ≤ 4096) : ∃ rm' cl' ck' cv', (∀ k, k < T → ¬ mk k = 0 → rm' k = nI (sc_ct mk k) ∧ cl' (sc_ct mk k) = cl k ∧ ∀ y, y < 8 → ck' (sc_ct mk k * 8 + y) = ck (k * 8 + y) ∧ cv' (sc_ct mk k * 8 + y) = cv (k * 8 + y)) ∧ ∀ (post : SY → Prop) n, T < n → (∃ n126, wY_compact_126 post (nI (sc_ct mk T)) fu ll dl nc bs hK hV ca pk (nI T) wt lc sp ye yc rK rV 32768 32768 n126 0 Nk Na N2 C1 C2 C3 Nf bk cl' ck' cv' mk wk rm' gk gn ge gv gp gq yk yv) → wY_compact_21 post fu ll dl nc bs hK hV ca pk (nI T) wt lc sp ye yc rK rV 32768 32768 n 0 0 Nk Na N2 C1 C2 C3 Nf bk cl ck cv mk wk rm gk gn ge gv gp gq yk yv := by
  have L := sc_loop (P := SY → Prop) (S := (Nat → Int32) × (Nat → Int32) × (Nat → Int32) × (Nat → Int32)) (fun o n i s => wY_compact_21 o fu ll dl nc bs hK hV ca pk (nI T) wt lc sp ye yc rK rV 32768 32768 n (nI (sc_ct mk i)) (nI i) Nk Na N2 C1 C2 C3 Nf bk s.2.1 s.2.2.1 s.2.2.2 mk wk s.1 gk gn ge gv gp gq yk yv) (fun o s => ∃ n126, wY_compact_126 o (nI (sc_ct mk T)) fu ll dl nc bs hK hV ca pk (nI T) wt lc sp ye yc rK rV 32768 32768 n126 0 Nk Na N2 C1 C2 C3 Nf bk s.2.1 s.2.2.1 s.2.2.2 mk wk s.1 gk gn ge gv gp gq yk yv) (fun i s => (∀ k, k < i → ¬ mk k = 0 → s.1 k = nI (sc_ct mk k) ∧ s.2.1 (sc_ct mk k) = cl k ∧ ∀ y, y < 8 → s.2.2.1 (sc_ct mk k * 8 + y) = ck (k * 8 + y) ∧ s.2.2.2 (sc_ct mk k * 8 + y) = cv (k * 8 + y)) ∧ ∀ k, i ≤ k → s.2.1 k = cl k ∧ ∀ y, y < 8 → s.2.2.1 (k * 8 + y) = ck (k * 8 + y) ∧ s.2.2.2 (k * 8 + y) = cv (k * 8 + y)) T ?_ ?_ T 0 (rm, cl, ck, cv) (Nat.zero_add T) ⟨fun k hk => absurd hk (Nat.not_lt_zero k), fun k _ => ⟨rfl, fun y _ => ⟨rfl, rfl⟩⟩⟩
  · obtain ⟨s', ⟨a1, _⟩, K⟩ := L
    exact ⟨_, _, _, _, a1, fun post n hn h => K post n hn h⟩
  · intro o n s _ hp
    exact br_t (nI_le (a := T) (b := T) (by omega) (by omega)) hp
  · intro i s hi hI
    obtain ⟨a1, a2⟩ := hI
    have hci := sc_ct_le mk i
    by_cases z : mk i = 0
    · refine ⟨s, ⟨fun k hk hm => ?_, fun k hk => a2 k (by omega)⟩, fun o n h => br_f (nI_ge (a := i) (b := T) hi (by omega)) ⟨vp_in_nI (by omega) (by omega), br_t (by rw [nI_clamp (by omega)]; exact z) (nm_r (nI_1 i) ?_)⟩⟩
      · by_cases e : k = i
        · subst e
          exact absurd z hm
        · exact a1 k (by omega) hm
      · rw [sc_ct_z z] at h
        exact h
    · obtain ⟨b1, b2⟩ := a2 i (Nat.le_refl i)
      refine ⟨(upd s.1 i (nI (sc_ct mk i)), upd s.2.1 (sc_ct mk i) (s.2.1 i), sc_wr s.2.2.1 (sc_ct mk i * 8) (fun y => s.2.2.1 (i * 8 + y)) 8, sc_wr s.2.2.2 (sc_ct mk i * 8) (fun y => s.2.2.2 (i * 8 + y)) 8), ⟨fun k hk hm => ?_, fun k hk => ?_⟩, fun o n h => br_f (nI_ge (a := i) (b := T) hi (by omega)) ⟨vp_in_nI (by omega) (by omega), br_f (by rw [nI_clamp (by omega)]; exact z) ⟨vp_in_nI (by omega) (by omega), nm_r (e' := upd s.1 i (nI (sc_ct mk i))) (by rw [nI_clamp (by omega)]) ⟨vp_in_nI (by omega) (by omega), vp_in_nI (by omega) (by omega), nm_r (e' := upd s.2.1 (sc_ct mk i) (s.2.1 i)) (by rw [nI_clamp (n := sc_ct mk i) (by omega), nI_clamp (n := i) (by omega)]) ⟨9, ?_⟩⟩⟩⟩⟩
      · dsimp only
        by_cases e : k = i
        · subst e
          rw [pk_us, pk_us]
          refine ⟨rfl, b1, fun y hy => ?_⟩
          rw [sc_wr_i hy, sc_wr_i hy]
          exact b2 y hy
        · have hlt := sc_ct_l hm (show k < i by omega)
          obtain ⟨c1, c2, c3⟩ := a1 k (by omega) hm
          rw [pk_un e, pk_un (by omega)]
          refine ⟨c1, c2, fun y hy => ?_⟩
          rw [sc_wr_r (by omega) hy, sc_wr_r (by omega) hy]
          exact c3 y hy
      · dsimp only
        obtain ⟨c1, c2⟩ := a2 k (by omega)
        rw [pk_un (by omega)]
        refine ⟨c1, fun y hy => ?_⟩
        rw [sc_wr_r (by omega) hy, sc_wr_r (by omega) hy]
        exact c2 y hy
      · have K := yw_cp (post := o) (J21 := wY_compact_21 o fu ll dl nc bs hK hV ca pk (nI T) wt lc sp ye yc rK rV 32768 32768 n) (fu := fu) (ll := ll) (dl := dl) (nc := nc) (bs := bs) (hK := hK) (hV := hV) (ca := ca) (pk := pk) (ct := nI T) (wt := wt) (lc := lc) (sp := sp) (ye := ye) (yc := yc) (rK := rK) (rV := rV) (Nk := Nk) (Na := Na) (N2 := N2) (C1 := C1) (C2 := C2) (C3 := C3) (Nf := Nf) (bk := bk) (cl := upd s.2.1 (sc_ct mk i) (s.2.1 i)) (ck := s.2.2.1) (cv := s.2.2.2) (mk := mk) (wk := wk) (rm := upd s.1 i (nI (sc_ct mk i))) (gk := gk) (gn := gn) (ge := ge) (gv := gv) (gp := gp) (gq := gq) (yk := yk) (yv := yv) (i := i) (j := sc_ct mk i) (by omega) hci (by rw [sc_ct_s z] at h; exact h) 8 0 (by omega)
        rw [sc_wr0, sc_wr0] at K
        exact K
theorem yw_tr8 {post : SY → Prop} {J126 : Int32 → (Nat → Int32) → (Nat → Int32) → (Nat → Int32) → (Nat → Int32) → (Nat → Int32) → (Nat → Int32) → (Nat → Int32) → (Nat → Int32) → (Nat → Int32) → (Nat → Int32) → (Nat → Int32) → (Nat → Int32) → (Nat → Int32) → (Nat → Int32) → (Nat → Int32) → (Nat → Int32) → (Nat → Int32) → (Nat → Int32) → (Nat → Int32) → (Nat → Int32) → (Nat → Int32) → (Nat → Int32) → Prop} {x1 : Int32} {i : Nat} (hi : i < 4096) (h : J126 (nI (i + 1)) Nk Na N2 C1 C2 C3 Nf bk cl ck (sc_wr cv 0 (sc_tr rm ck cv) (i * 8 + 8)) mk wk rm gk gn ge gv gp gq yk yv) : ∀ d t, t + d = 8 → wY_compact_133 post J126 x1 (nI i) fu ll dl nc bs hK hV ca pk ct wt lc sp ye yc rK rV 32768 32768 (d + 1) (nI t) Nk Na N2 C1 C2 C3 Nf bk cl ck (sc_wr cv 0 (sc_tr rm ck cv) (i * 8 + t)) mk wk rm gk gn ge gv gp gq yk yv := by
  intro d
  induction d with
  | zero =>
    intro t ht
    have : t = 8 := by omega
    subst this
    exact br_t (nI_le (a := 8) (b := 8) (by omega) (by omega)) (nm_r (nI_1 i) h)
  | succ d ih =>
    intro t ht
    have ih' := ih (t + 1) (by omega)
    have ep : (nI (i * 8 + t)).toNatClampNeg = i * 8 + t := nI_clamp (by omega)
    have vp : vp_in (nI (i * 8 + t)) 32768 := vp_in_nI (by omega) (by omega)
    have er : sc_wr cv 0 (sc_tr rm ck cv) (i * 8 + t) (i * 8 + t) = cv (i * 8 + t) := sc_wr_o (by omega)
    have keep : ¬ (ck (i * 8 + t) = 2 ∧ ¬ cv (i * 8 + t) < 0 ∧ ¬ 4096 ≤ cv (i * 8 + t)) → sc_wr cv 0 (sc_tr rm ck cv) (i * 8 + t) = sc_wr cv 0 (sc_tr rm ck cv) (i * 8 + (t + 1)) := by
      intro hn
      refine sc_wr_k ?_
      rw [Nat.zero_add]
      exact if_neg hn
    refine br_f (nI_ge (a := t) (b := 8) (by omega) (by omega)) (nm_r (sc_a8 i t) ⟨vp, ?_⟩)
    rw [ep, er]
    by_cases c2 : ck (i * 8 + t) = 2
    · refine br_t c2 ⟨vp, ?_⟩
      by_cases c0 : cv (i * 8 + t) < 0
      · refine br_t c0 (nm_r (nI_1 t) ?_)
        rw [keep (fun z => z.2.1 c0)]
        exact ih'
      · refine br_f c0 ⟨vp, ?_⟩
        by_cases c4 : 4096 ≤ cv (i * 8 + t)
        · refine br_t c4 (nm_r (nI_1 t) ?_)
          rw [keep (fun z => z.2.2 c4)]
          exact ih'
        · refine br_f c4 ⟨vp, ?_, vp, ?_⟩
          · rcases pk_ix (cv (i * 8 + t)) (n := 4096) (by omega) with z | z | ⟨j, hj, e⟩
            · exact absurd z c0
            · exact absurd z c4
            · rw [e]
              exact vp_in_nI hj (by omega)
          · refine nm_r (e' := sc_wr cv 0 (sc_tr rm ck cv) (i * 8 + (t + 1))) (sc_wr_u (by rw [Nat.zero_add]) (if_pos ⟨c2, c0, c4⟩).symm) ?_
            exact nm_r (nI_1 t) ih'
    · refine br_f c2 (nm_r (nI_1 t) ?_)
      rw [keep (fun z => c2 z.1)]
      exact ih'
theorem yw_tr {post : SY → Prop} {J h0 : Nat} (hJ : J ≤ 4096) (hh : h0 < 4096) (h : post (fu, ll, dl, nc, bs, hK, rm h0, ca, pk, nI J, wt, lc, sp, ye, yc, rK, rV, Nk, Na, N2, C1, C2, C3, Nf, bk, cl, ck, sc_wr cv 0 (sc_tr rm ck cv) (J * 8), mk, wk, rm, gk, gn, ge, gv, gp, gq, yk, yv, 32768, 32768)) : ∀ d i, i + d = J → wY_compact_126 post (nI J) fu ll dl nc bs hK (nI h0) ca pk ct wt lc sp ye yc rK rV 32768 32768 (d + 1) (nI i) Nk Na N2 C1 C2 C3 Nf bk cl ck (sc_wr cv 0 (sc_tr rm ck cv) (i * 8)) mk wk rm gk gn ge gv gp gq yk yv := by
  intro d
  induction d with
  | zero =>
    intro i hi
    have : i = J := by omega
    subst this
    exact br_t (nI_le (a := i) (b := i) (by omega) (by omega)) (br_f (nI_pos (by omega)) (br_f (nI_ge (a := h0) (b := 4096) hh (by omega)) ⟨vp_in_nI hh (by omega), nm_r (e' := rm h0) (by rw [nI_clamp (by omega)]) h⟩))
  | succ d ih =>
    intro i hi
    refine br_f (nI_ge (a := i) (b := J) (by omega) (by omega)) ⟨9, ?_⟩
    have K := yw_tr8 (post := post) (J126 := wY_compact_126 post (nI J) fu ll dl nc bs hK (nI h0) ca pk ct wt lc sp ye yc rK rV 32768 32768 (d + 1)) (x1 := nI J) (fu := fu) (ll := ll) (dl := dl) (nc := nc) (bs := bs) (hK := hK) (hV := nI h0) (ca := ca) (pk := pk) (ct := ct) (wt := wt) (lc := lc) (sp := sp) (ye := ye) (yc := yc) (rK := rK) (rV := rV) (Nk := Nk) (Na := Na) (N2 := N2) (C1 := C1) (C2 := C2) (C3 := C3) (Nf := Nf) (bk := bk) (cl := cl) (ck := ck) (cv := cv) (mk := mk) (wk := wk) (rm := rm) (gk := gk) (gn := gn) (ge := ge) (gv := gv) (gp := gp) (gq := gq) (yk := yk) (yv := yv) (i := i) (by omega) (by
      have := ih (i + 1) (by omega)
      rw [show (i + 1) * 8 = i * 8 + 8 by omega] at this
      exact this) 8 0 (by omega)
    exact K
end
end
section
/-! ===== compaction as a whole; run and callResult ===== -/
section
variable {fu ll dl nc bs hK hV ca pk ct wt lc sp ye yc rK rV : Int32} {Nk Na N2 C1 C2 C3 Nf bk cl ck cv mk wk rm gk gn ge gv gp gq yk yv : Nat → Int32}
variable {nk sl sw sm iu : Nat → Int32} {g : Nat → Nat} {U : Nat → Prop} {N T s0 : Nat}
theorem yw_compact (hT : T ≤ 4096) (hb : sc_HB g U iu T) (hn : ∀ s, U s → sc_HN g U N nk Nf sl sw sm cl ck cv s) (hI : sc_IU 32 iu) (hs : U s0) : ∃ (g' : Nat → Nat) (U' : Nat → Prop) (T' : Nat) (mk' wk' : Nat → Int32) (lc' wt' : Int32) (rm' cl' ck' cv' : Nat → Int32), T' ≤ 32 ∧ sc_HB g' U' iu T' ∧ (∀ s, U' s → sc_HN g' U' N nk Nf sl sw sm cl' ck' cv' s) ∧ U' s0 ∧ ∀ post : SY → Prop, post (fu, ll, dl, nc, bs, hK, nI (g' s0), ca, pk, nI T', wt', lc', sp, ye, yc, rK, rV, Nk, Na, N2, C1, C2, C3, Nf, bk, cl', ck', cv', mk', wk', rm', gk, gn, ge, gv, gp, gq, yk, yv, 32768, 32768) → wpY_compact post (fu, ll, dl, nc, bs, hK, nI (g s0), ca, pk, nI T, wt, lc, sp, ye, yc, rK, rV, Nk, Na, N2, C1, C2, C3, Nf, bk, cl, ck, cv, mk, wk, rm, gk, gn, ge, gv, gp, gq, yk, yv, 32768, 32768) := by
  have hU : ∀ s, U s → s < 34 ∧ g s < T := fun s h => ⟨(hb.1 s h).1, (hb.1 s h).2.2⟩
  have hVU : ∀ s, sc_rc (fun s => s = s0) (sc_EX sw sm) s → U s := sc_iso1 (fun s e => e ▸ hs) (fun s t h e => sc_HN_k (hn s h) (fun s h => (hU s h).1) e)
  have hg0 := (hU s0 hs).2
  obtain ⟨mk1, wk1, lc1, wt1, c1, p1, q1, w1, b1, b2, b3, b4, K1⟩ := yw_mark (fu := fu) (ll := ll) (dl := dl) (nc := nc) (bs := bs) (hK := hK) (hV := nI (g s0)) (ca := ca) (pk := pk) (ct := nI T) (sp := sp) (ye := ye) (yc := yc) (rK := rK) (rV := rV) (Nk := Nk) (Na := Na) (N2 := N2) (C1 := C1) (C2 := C2) (C3 := C3) (Nf := Nf) (bk := bk) (cl := cl) (ck := ck) (cv := cv) (rm := rm) (gk := gk) (gn := gn) (ge := ge) (gv := gv) (gp := gp) (gq := gq) (yk := yk) (yv := yv) (k := 2) (v := nI (g s0)) (sc_YS0 (T := T) (mk := mk) (wk := wk) (q := fun i => i) (w := fun i => i)) hT (fun _ => ⟨g s0, hg0, rfl⟩)
  have hp1 : p1 = c1 := by have := b2.2.2.1; omega
  subst hp1
  have hq1 : ∀ i, i < p1 → q1 i = g s0 := by
    intro i hi
    rcases b4 i hi with h | ⟨_, e⟩
    · exact absurd h (Nat.not_lt_zero i)
    · have := b1.2.2.2.1 i hi
      exact (sc_nIi e (by omega) (by omega)).symm
  obtain ⟨mk2, wk2, lc2, wt2, c2, q2, w2, d1, d2, d3, d4, K2⟩ := yw_drain (R := fun j => ∃ s, sc_rc (fun s => s = s0) (sc_EX sw sm) s ∧ j = g s) (fu := fu) (ll := ll) (dl := dl) (nc := nc) (bs := bs) (hK := hK) (hV := nI (g s0)) (ca := ca) (pk := pk) (ct := nI T) (sp := sp) (ye := ye) (yc := yc) (rK := rK) (rV := rV) (Nk := Nk) (Na := Na) (N2 := N2) (C1 := C1) (C2 := C2) (C3 := C3) (Nf := Nf) (bk := bk) (cl := cl) (ck := ck) (cv := cv) (rm := rm) (gk := gk) (gn := gn) (ge := ge) (gv := gv) (gp := gp) (gq := gq) (yk := yk) (yv := yv) hT (by
    intro j hj
    obtain ⟨s, h, rfl⟩ := hj
    exact (hU s (hVU s h)).2) (by
    intro j hj y hy e
    obtain ⟨s, h, rfl⟩ := hj
    obtain ⟨t, ht, ex, e2⟩ := sc_HN_y (hn s (hVU s h)) hU hy e
    exact ⟨g t, ⟨t, sc_rc_e h ex, rfl⟩, e2⟩) b1 (fun i hi => ⟨s0, sc_rc_r rfl, hq1 i hi⟩) (fun i hi => by
    rcases b2.2.2.2 i hi with h | h
    · exact absurd h (Nat.not_lt_zero i)
    · exact h)
  have hin : ∀ s, sc_rc (fun s => s = s0) (sc_EX sw sm) s → sc_in c2 q2 (g s) := by
    intro s h
    refine (h (fun s => sc_rc (fun s => s = s0) (sc_EX sw sm) s ∧ sc_in c2 q2 (g s)) ?_ ?_).2
    · intro a e
      subst e
      refine ⟨sc_rc_r rfl, ?_⟩
      obtain ⟨j, hj, e2, e3⟩ := b3 rfl
      have : g a = j := sc_nIi e2 (by omega) (by omega)
      rw [this]
      exact sc_ex_in d2 e3
    · intro a b ha e
      obtain ⟨y, hy, e1, e2⟩ := sc_HN_x (hn a (hVU a ha.1)) (fun s h => (hU s h).1) e
      exact ⟨sc_rc_e ha.1 e, d4 (g a) (g b) ha.2 ⟨(hU b (hVU b (sc_rc_e ha.1 e))).2, y, hy, e1, e2⟩⟩
  have hmk : ∀ s, sc_rc (fun s => s = s0) (sc_EX sw sm) s → ¬ mk2 (g s) = 0 := by
    intro s h
    rcases d1.2.2.2.2.2.1 (g s) (hU s (hVU s h)).2 with z | z
    · rw [z.1]; decide
    · exact absurd (hin s h) z.2
  have hkm : ∀ k, k < T → ¬ mk2 k = 0 → ∃ s, sc_rc (fun s => s = s0) (sc_EX sw sm) s ∧ k = g s := by
    intro k hk hm
    rcases d1.2.2.2.2.2.1 k hk with z | z
    · obtain ⟨i, hi, e⟩ := z.2
      rw [← e]
      exact d3 i hi
    · exact absurd z.1 hm
  obtain ⟨rm3, cl3, ck3, cv3, e3, K3⟩ := yw_mv (fu := fu) (ll := ll) (dl := dl) (nc := nc) (bs := bs) (hK := hK) (hV := nI (g s0)) (ca := ca) (pk := pk) (wt := wt2) (lc := lc2) (sp := sp) (ye := ye) (yc := yc) (rK := rK) (rV := rV) (Nk := Nk) (Na := Na) (N2 := N2) (C1 := C1) (C2 := C2) (C3 := C3) (Nf := Nf) (bk := bk) (cl := cl) (ck := ck) (cv := cv) (mk := mk2) (wk := wk2) (rm := rm) (gk := gk) (gn := gn) (ge := ge) (gv := gv) (gp := gp) (gq := gq) (yk := yk) (yv := yv) (T := T) hT
  have hJ := sc_ct_le mk2 T
  have h32 : sc_ct mk2 T ≤ 32 := by
    obtain ⟨i1, c, q, hc, i2⟩ := hI
    refine Nat.le_trans (sc_pig (T := fun r i => ∃ s, sc_rc (fun s => s = s0) (sc_EX sw sm) s ∧ sc_ct mk2 (g s) = r ∧ q i = s) ?_ ?_) hc
    · intro r hr
      obtain ⟨k, hk, hm, e⟩ := sc_ct_in hr
      obtain ⟨s, h1, h2⟩ := hkm k hk hm
      subst h2
      obtain ⟨i, hi, ei⟩ := i2 s (hU s (hVU s h1)).1 (hb.1 s (hVU s h1)).2.1
      exact ⟨i, hi, s, h1, e, ei⟩
    · intro r r' i _ _ h1 h2
      obtain ⟨s, _, a2, a3⟩ := h1
      obtain ⟨t, _, z2, z3⟩ := h2
      rw [← a2, ← z2, ← a3, ← z3]
  have hlt : ∀ s, sc_rc (fun s => s = s0) (sc_EX sw sm) s → sc_ct mk2 (g s) < sc_ct mk2 T := fun s h => sc_ct_l (hmk s h) (hU s (hVU s h)).2
  refine ⟨fun s => sc_ct mk2 (g s), sc_rc (fun s => s = s0) (sc_EX sw sm), sc_ct mk2 T, mk2, wk2, lc2, wt2, rm3, cl3, ck3, sc_wr cv3 0 (sc_tr rm3 ck3 cv3) (sc_ct mk2 T * 8), h32, ⟨fun s h => ⟨(hU s (hVU s h)).1, (hb.1 s (hVU s h)).2.1, hlt s h⟩, fun s t h h' e => hb.2 s t (hVU s h) (hVU t h') (sc_ct_i (hmk s h) (hmk t h') e)⟩, ?_, sc_rc_r rfl, fun post h => ?_⟩
  · intro s h
    obtain ⟨l, l1, l2, l3, l4, l5, l6, l7⟩ := hn s (hVU s h)
    obtain ⟨m1, m2, m3⟩ := e3 (g s) (hU s (hVU s h)).2 (hmk s h)
    have hls := hlt s h
    have rd : ∀ y, y < 8 → sc_wr cv3 0 (sc_tr rm3 ck3 cv3) (sc_ct mk2 T * 8) (sc_ct mk2 (g s) * 8 + y) = sc_tr rm3 ck3 cv3 (sc_ct mk2 (g s) * 8 + y) := fun y hy => sc_wr_z (by omega)
    refine ⟨l, l1, l2, l3, m2.trans l4, ?_, l6, fun y hy hbt => by rw [(m3 y hy).1]; exact l7 y hy hbt⟩
    intro y hy hbt
    dsimp only
    rw [rd y hy, (m3 y hy).1]
    rcases l5 y hy hbt with ⟨z1, z2, z3⟩ | ⟨z1, z2, t, ht, z3, z4⟩
    · refine Or.inl ⟨z1, z2, ?_⟩
      have z2' : ck (g s * 8 + y) = 1 := z2
      unfold sc_tr
      rw [if_neg (fun z => by rw [(m3 y hy).1, z2'] at z; exact absurd z.1 (by decide)), (m3 y hy).2]
      exact z3
    · have htV : sc_rc (fun s => s = s0) (sc_EX sw sm) t := sc_rc_e h ⟨(hU t ht).1, y, hy, z1, z3⟩
      have hgt := (hU t ht).2
      refine Or.inr ⟨z1, z2, t, htV, z3, ?_⟩
      unfold sc_tr
      rw [(m3 y hy).1, (m3 y hy).2]
      have z4' : cv (g s * 8 + y) = nI (g t) := z4
      rw [z4', if_pos ⟨z2, nI_pos (by omega), nI_ge (a := g t) (b := 4096) (by omega) (by omega)⟩, nI_clamp (by omega)]
      exact (e3 (g t) hgt (hmk t htV)).1
  · unfold wpY_compact
    refine yw_begin hT (K1 _ (K2 _ ⟨T + 1, K3 post (T + 1) (by omega) ⟨sc_ct mk2 T + 1, ?_⟩⟩))
    have K4 := yw_tr (post := post) (fu := fu) (ll := ll) (dl := dl) (nc := nc) (bs := bs) (hK := hK) (ca := ca) (pk := pk) (ct := nI T) (wt := wt2) (lc := lc2) (sp := sp) (ye := ye) (yc := yc) (rK := rK) (rV := rV) (Nk := Nk) (Na := Na) (N2 := N2) (C1 := C1) (C2 := C2) (C3 := C3) (Nf := Nf) (bk := bk) (cl := cl3) (ck := ck3) (cv := cv3) (mk := mk2) (wk := wk2) (rm := rm3) (gk := gk) (gn := gn) (ge := ge) (gv := gv) (gp := gp) (gq := gq) (yk := yk) (yv := yv) (J := sc_ct mk2 T) (h0 := g s0) (by omega) (by omega) (by rw [(e3 (g s0) hg0 (hmk s0 (sc_rc_r rfl))).1]; exact h) (sc_ct mk2 T) 0 (by omega)
    rw [Nat.zero_mul, sc_wr0] at K4
    exact K4
end
theorem sm_fin {M : Nat} {r : Int32} {u : SX} {v : SY} (h : sc_SR M r u v) (hM : M ≤ 90000) : ∃ r' u' v', sc_RL u' v' ∧ (∀ post : Int32 → SX → Prop, post r' u' → ∃ n, sc_lX post n 0 u) ∧ (∀ post : Int32 → SY → Prop, post r' v' → (r = -2 → ∃ n, sc_lY post n 0 v) ∧ (¬ r = -2 → post r v)) := by
  rcases h with ⟨hr, M', hlt, h1⟩ | ⟨h2, h0, h1⟩ | ⟨hr, h1⟩
  · obtain ⟨r', u', v', hR, LX, LY⟩ := sm_loop M' u v h1
    exact ⟨r', u', v', hR, fun post hp => ⟨M' + 3, LX post (M' + 3) 0 (by omega) (by omega) hp⟩, fun post hp => ⟨fun _ => ⟨M' + 3, LY post (M' + 3) 0 (by omega) (by omega) hp⟩, fun z => absurd hr z⟩⟩
  · obtain ⟨hR, LX⟩ := sm_err h1 h2 h0
    exact ⟨r, u, v, hR, fun post hp => ⟨1, LX post 0 0 (by omega) hp⟩, fun post hp => ⟨fun z => absurd z h2, fun _ => hp⟩⟩
  · obtain ⟨u', hR, LX⟩ := sm_ok h1
    subst hr
    exact ⟨0, u', v, hR, fun post hp => ⟨1, LX post 0 0 (by omega) hp⟩, fun post hp => ⟨fun z => absurd z (by decide), fun _ => hp⟩⟩
theorem i_vc_callResult {k : Nat} {u : SX} {v : SY} (I : i_Rel k u v) (hk : k + 3 ≤ 1539) (v1 : Int32) : wpX_callResult (fun r u' => wpY_callResult (fun r' v' => r' = r ∧ i_Rel (k + 3) u' v') v v1) u v1 := by
  have I0 := i_up I
  refine sc_RL_e I (fun hk hv st ev cu ec va vc dp rc hK hV ct wt lc yc rK rV nk nl n2 k1 k2 k3 nf sk en fk fn fl fm iu sl sw sm rs Nk N2 C1 C2 C3 cl ck cv mk wk rm gk gn ge gv gp gq yk yv sp ye F L D N S A P sz qu qv hB hD => ?_)
  clear I
  subst qu qv
  unfold wpX_callResult
  rcases hD with ⟨rfl, rfl, rfl, rfl⟩ | ⟨rfl, rfl, rfl⟩ | ⟨rfl, rfl, s, g, U, T, rfl, hT, hb, hn, hI, hs, rfl, rfl⟩
  · refine br_f (by decide) ?_
    unfold wpY_callResult
    exact br_f (by decide) ⟨rfl, I0⟩
  · refine br_f (by decide) ?_
    unfold wpY_callResult
    exact br_f (by decide) ⟨rfl, I0⟩
  · obtain ⟨g', U', T', mk', wk', lc', wt', rm', cl', ck', cv', t32, hb', hn', hs', KC⟩ := yw_compact (fu := nI F) (ll := nI L) (dl := nI D) (nc := nI N) (bs := nI S) (hK := 2) (ca := nI A) (pk := nI P) (wt := wt) (lc := lc) (sp := sp) (ye := ye) (yc := yc) (rK := rK) (rV := rV) (Nk := Nk) (Na := nl) (N2 := N2) (C1 := C1) (C2 := C2) (C3 := C3) (bk := sk) (mk := mk) (wk := wk) (rm := rm) (gk := gk) (gn := gn) (ge := ge) (gv := gv) (gp := gp) (gq := gq) (yk := yk) (yv := yv) hT hb hn hI hs
    obtain ⟨⟨b1, b2, b3, b4, b5, b6, b7, b8⟩, hB2⟩ := hB
    obtain ⟨u1, w1, r, KX, KY, hS⟩ := sj_call (F := F) (L := L) (D := D) (S := S) (A := 0) (P := 0) (d := 0) (Q := 0) (c := false) (va := v1) (a1 := 1) (a2 := v1) (ye := ye) (cu := cu) (ec := ec) (rc := rc) (rs := rs) (en := en) (wt := wt') (lc := lc') (yc := yc) (rK := rK) (rV := rV) (mk := mk') (wk := wk') (rm := rm') (yk := yk) (yv := yv) (fk := fk) (fn := fn) (fl := fl) (fm := fm) (gk := gk) (gn := gn) (ge := ge) (gv := gv) (gp := gp) (gq := gq) ⟨⟨b1, b2, b3, b4, b5, b6, by omega, by omega⟩, hB2⟩ (by omega) (by omega) hb' hn' True.intro hI (Or.inl ⟨rfl, rfl, rfl⟩) hs'
    obtain ⟨r', u', v', hR, LX, LY⟩ := sm_fin hS (by omega)
    refine br_t rfl ?_
    unfold wpX_startMachine wpX_forgetLastRun wpX_giveInt
    obtain ⟨_, _, _, _, _, _, _, _, _, _, _, _, _, _, _, _, _, _, _, _, _, _, _, _, _, _, _, _, _, _, _, _, _, _, _⟩ := u1
    refine KX _ ?_
    obtain ⟨_, _, _, _, _, _, _, _, _, _, _, _, _, _, _, _, _, _, _, _, _, _, _, _, _, _, _, _, _, _, _, _, _, _, _⟩ := u'
    unfold wpX_finishMachine
    refine LX _ ?_
    unfold wpY_callResult
    refine br_t rfl (KC _ ?_)
    obtain ⟨_, _, _, _, _, _, _, _, _, _, _, _, _, _, _, _, _, _, _, _, _, _, _, _, _, _, _, _, _, _, _, _, _, _, _, _, _, _, _, _, _⟩ := w1
    refine KY _ ?_
    obtain ⟨_, _, _, _, _, _, _, _, _, _, _, _, _, _, _, _, _, _, _, _, _, _, _, _, _, _, _, _, _, _, _, _, _, _, _, _, _, _, _, _, _⟩ := v'
    obtain ⟨l1, l2⟩ := LY (fun r' v' => r' = _ ∧ i_Rel (k + 3) _ v') ⟨rfl, hR⟩
    exact br_c l1 l2
section
variable {fu ll dl nc bs hK hV ca pk ct wt lc sp ye yc rK rV : Int32} {Nk Na N2 C1 C2 C3 Nf bk cl ck cv mk wk rm gk gn ge gv gp gq yk yv : Nat → Int32}
theorem yw_run_l {post : Int32 → SY → Prop} {x1 r' : Int32} {v' : SY} (K : ∀ post' : Int32 → SY → Prop, post' r' v' → wpY_machine post' (fu, ll, dl, nc, bs, hK, hV, ca, pk, ct, wt, lc, sp, 1, x1, rK, rV, Nk, Na, N2, C1, C2, C3, Nf, bk, cl, ck, cv, mk, wk, rm, gk, gn, ge, gv, gp, gq, sc_wr yk 0 (fun _ => 0) 8, sc_wr yv 0 (fun _ => 0) 8, 32768, 32768)) (h : post r' v') : ∀ d i, i + d = 8 → wY_run_60 post x1 fu ll dl nc bs hK hV ca pk ct wt lc sp ye yc rK rV 32768 32768 (d + 1) (nI i) Nk Na N2 C1 C2 C3 Nf bk cl ck cv mk wk rm gk gn ge gv gp gq (sc_wr yk 0 (fun _ => 0) i) (sc_wr yv 0 (fun _ => 0) i) := by
  obtain ⟨_, _, _, _, _, _, _, _, _, _, _, _, _, _, _, _, _, _, _, _, _, _, _, _, _, _, _, _, _, _, _, _, _, _, _, _, _, _, _, _, _⟩ := v'
  intro d
  induction d with
  | zero =>
    intro i hi
    have : i = 8 := by omega
    subst this
    exact br_t (nI_le (a := 8) (b := 8) (by omega) (by omega)) (K _ h)
  | succ d ih =>
    intro i hi
    refine br_f (nI_ge (a := i) (b := 8) (by omega) (by omega)) ⟨vp_in_nI (by omega) (by omega), nm_r (e' := sc_wr yk 0 (fun _ => 0) (i + 1)) (sc_wr_u (by rw [nI_clamp (by omega)]; omega) rfl) ⟨vp_in_nI (by omega) (by omega), nm_r (e' := sc_wr yv 0 (fun _ => 0) (i + 1)) (sc_wr_u (by rw [nI_clamp (by omega)]; omega) rfl) ?_⟩⟩
    exact nm_r (nI_1 i) (ih (i + 1) (by omega))
end
theorem i_vc_run {k : Nat} {u : SX} {v : SY} (I : i_Rel k u v) (hk : k + 3 ≤ 1539) : wpX_run (fun r u' => wpY_run (fun r' v' => r' = r ∧ i_Rel (k + 3) u' v') v) u := by
  have I0 := i_up I
  refine sc_RL_e I (fun hk hv st ev cu ec va vc dp rc hK hV ct wt lc yc rK rV nk nl n2 k1 k2 k3 nf sk en fk fn fl fm iu sl sw sm rs Nk N2 C1 C2 C3 cl ck cv mk wk rm gk gn ge gv gp gq yk yv sp ye F L D N S A P sz qu qv hB hD => ?_)
  clear I
  subst qu qv
  have hN := hB.1.2.2.2.2.1
  have hS := hB.1.2.2.2.2.2.1
  unfold wpX_run
  by_cases hS1 : S = 1
  · subst hS1
    obtain ⟨n, hn, en'⟩ := hB.2.2.1 0 (by omega)
    obtain ⟨⟨b1, b2, b3, b4, b5, b6, b7, b8⟩, hB2⟩ := hB
    have hB0 : sc_BA F L D N 1 0 0 sz nk nl n2 k1 k2 k3 nf sk Nk N2 C1 C2 C3 := ⟨⟨b1, b2, b3, b4, b5, b6, by omega, by omega⟩, hB2⟩
    refine br_t rfl ?_
    unfold wpX_startMachine wpX_forgetLastRun
    refine nm_r (e' := nI n) en' ⟨vp_in_nI (by omega) (by omega), ?_⟩
    rw [nI_clamp (n := n) (by omega)]
    by_cases hf : nf n = 0
    · have hz32 := (hB2.1 n hn).1.2
      obtain ⟨r', u', v', hR, LX, LY⟩ := sm_loop (3 * sz n + 0 + 93 * (F - 0)) (nI F, nI L, nI D, nI N, nI 1, 0, 0, nI 0, nI 0, -2, 1, nI n, 0, va, vc, nI 0, rc, nk, nl, n2, k1, k2, k3, nf, sk, en, fk, fn, fl, fm, sc_wr iu 0 (fun _ => 0) 34, sl, sw, sm, rs) (nI F, nI L, nI D, nI N, nI 1, 0, 0, nI 0, nI 0, nI 0, wt, lc, nI 0, 1, nI n, rK, rV, Nk, nl, N2, C1, C2, C3, nf, sk, cl, ck, cv, mk, wk, rm, gk, gn, ge, gv, gp, gq, sc_wr yk 0 (fun _ => 0) 8, sc_wr yv 0 (fun _ => 0) 8, 32768, 32768) (sc_MRk (T := 0) (d := 0) (Q := 0) (g := fun _ => 0) (U := fun _ => False) hB0 (by omega) rfl (by omega) ⟨⟨fun s h => h.elim, fun s t h => h.elim⟩, fun s h => h.elim, True.intro⟩ ⟨fun s hs => Or.inl (sc_wr_z hs), 0, fun i => i, by omega, fun s hs h1 => by rw [sc_wr_z hs] at h1; exact absurd h1 (by decide)⟩ (Or.inl ⟨rfl, n, hn, rfl, rfl, rfl, fun y hy hb => by rw [hf, b_0] at hb; cases hb⟩))
      refine br_t hf (xw_free ?_)
      unfold wpX_evaluate wpX_finishMachine
      obtain ⟨_, _, _, _, _, _, _, _, _, _, _, _, _, _, _, _, _, _, _, _, _, _, _, _, _, _, _, _, _, _, _, _, _, _, _⟩ := u'
      refine ⟨_, LX _ (3 * sz n + 0 + 93 * (F - 0) + 3) 0 (by omega) (by omega) ?_⟩
      unfold wpY_run
      refine br_t rfl (nm_r (e' := nI n) en' ⟨vp_in_nI (by omega) (by omega), ?_⟩)
      rw [nI_clamp (n := n) (by omega)]
      refine br_t hf ⟨9, ?_⟩
      have K := yw_run_l (post := fun r'' v'' => r'' = r' ∧ i_Rel (k + 3) _ v'') (x1 := nI n) (fu := nI F) (ll := nI L) (dl := nI D) (nc := nI N) (bs := nI 1) (hK := 0) (hV := 0) (ca := 0) (pk := 0) (ct := 0) (wt := wt) (lc := lc) (sp := 0) (ye := ye) (yc := yc) (rK := rK) (rV := rV) (Nk := Nk) (Na := nl) (N2 := N2) (C1 := C1) (C2 := C2) (C3 := C3) (Nf := nf) (bk := sk) (cl := cl) (ck := ck) (cv := cv) (mk := mk) (wk := wk) (rm := rm) (gk := gk) (gn := gn) (ge := ge) (gv := gv) (gp := gp) (gq := gq) (yk := yk) (yv := yv) (r' := r') (v' := v') (fun post' hp => ⟨_, LY post' (3 * sz n + 0 + 93 * (F - 0) + 3) 0 (by omega) (by omega) hp⟩) ⟨rfl, hR⟩ 8 0 (by omega)
      rw [sc_wr0, sc_wr0] at K
      exact K
    · refine br_f hf ?_
      unfold wpY_run
      refine br_t rfl (nm_r (e' := nI n) en' ⟨vp_in_nI (by omega) (by omega), ?_⟩)
      rw [nI_clamp (n := n) (by omega)]
      exact br_f hf ⟨rfl, sc_RLk (N := N) (S := 1) (A := 0) (P := 0) (sz := sz) (hB0) (Or.inl ⟨rfl, rfl, rfl, rfl⟩)⟩
  · have hne : ¬ nI S = 1 := fun z => hS1 (sc_nIi (b := 1) z (by omega) (by omega))
    refine br_f hne ?_
    unfold wpY_run
    exact br_f hne ⟨rfl, I0⟩
end
section
/-! ===== the other calls ===== -/
theorem i_vc_clear {k : Nat} {u : SX} {v : SY} (I : i_Rel k u v) (hk : k + 3 ≤ 1539) : wpX_clear (fun u' => wpY_clear (fun v' => i_Rel (k + 3) u' v') v) u := by
  refine sc_RL_e I (fun hk hv st ev cu ec va vc dp rc hK hV ct wt lc yc rK rV nk nl n2 k1 k2 k3 nf sk en fk fn fl fm iu sl sw sm rs Nk N2 C1 C2 C3 cl ck cv mk wk rm gk gn ge gv gp gq yk yv sp ye F L D N S A P sz qu qv hB hD => ?_)
  clear I
  subst qu qv
  obtain ⟨⟨b1, b2, b3, b4, b5, b6, b7, b8⟩, hB2⟩ := hB
  unfold wpX_clear wpX_forgetLastRun wpY_clear
  exact sc_RLk (N := 0) (S := 0) (A := 0) (P := 0) (sz := sz) (⟨⟨b1, b2, b3, b4, by omega, by omega, by omega, by omega⟩, fun i hi => absurd hi (Nat.not_lt_zero i), fun i hi => absurd hi (Nat.not_lt_zero i), rfl⟩) (Or.inl ⟨rfl, rfl, rfl, rfl⟩)
theorem i_vc_resultKind {k : Nat} {u : SX} {v : SY} (I : i_Rel k u v) (hk : k + 3 ≤ 1539) : wpX_resultKind (fun r => wpY_resultKind (fun r' => r' = r ∧ i_Rel (k + 3) u v) v) u := by
  have I0 := i_up I
  refine sc_RL_e I (fun hk hv st ev cu ec va vc dp rc hK hV ct wt lc yc rK rV nk nl n2 k1 k2 k3 nf sk en fk fn fl fm iu sl sw sm rs Nk N2 C1 C2 C3 cl ck cv mk wk rm gk gn ge gv gp gq yk yv sp ye F L D N S A P sz qu qv hB hD => ?_)
  clear I
  subst qu qv
  unfold wpX_resultKind wpY_resultKind
  rcases hD with ⟨rfl, rfl, rfl, rfl⟩ | ⟨rfl, rfl, rfl⟩ | ⟨rfl, rfl, _⟩
  · exact ⟨rfl, I0⟩
  · exact ⟨rfl, I0⟩
  · exact ⟨rfl, I0⟩
theorem i_vc_resultValue {k : Nat} {u : SX} {v : SY} (I : i_Rel k u v) (hk : k + 3 ≤ 1539) : wpX_resultValue (fun r => wpY_resultValue (fun r' => r' = r ∧ i_Rel (k + 3) u v) v) u := by
  have I0 := i_up I
  refine sc_RL_e I (fun hk hv st ev cu ec va vc dp rc hK hV ct wt lc yc rK rV nk nl n2 k1 k2 k3 nf sk en fk fn fl fm iu sl sw sm rs Nk N2 C1 C2 C3 cl ck cv mk wk rm gk gn ge gv gp gq yk yv sp ye F L D N S A P sz qu qv hB hD => ?_)
  clear I
  subst qu qv
  unfold wpX_resultValue
  rcases hD with ⟨rfl, rfl, rfl, rfl⟩ | ⟨rfl, rfl, rfl⟩ | ⟨rfl, rfl, s, g, U, T, rfl, hT, hb, hn, hI, hs, rfl, rfl⟩
  · refine br_f (by decide) ?_
    unfold wpY_resultValue
    exact br_f (by decide) (br_f (by decide) ⟨rfl, I0⟩)
  · refine br_f (by decide) ?_
    unfold wpY_resultValue
    exact br_t rfl ⟨rfl, I0⟩
  · obtain ⟨h34, _, hg⟩ := hb.1 s hs
    obtain ⟨l, l1, l2, l3, l4, _⟩ := hn s hs
    refine br_t rfl ⟨vp_in_nI h34 (by omega), ?_⟩
    unfold wpY_resultValue
    refine br_f (by decide) (br_t rfl (br_f (nI_pos (by omega)) (br_f (nI_ge (a := g s) (b := 4096) (by omega) (by omega)) ⟨vp_in_nI (by omega) (by omega), ?_, I0⟩)))
    rw [nI_clamp (n := g s) (by omega), nI_clamp (n := s) (by omega), l3, l4]
theorem i_vc_callsUsed {k : Nat} {u : SX} {v : SY} (I : i_Rel k u v) (hk : k + 3 ≤ 1539) : wpX_callsUsed (fun r => wpY_callsUsed (fun r' => r' = r ∧ i_Rel (k + 3) u v) v) u := by
  have I0 := i_up I
  refine sc_RL_e I (fun hk hv st ev cu ec va vc dp rc hK hV ct wt lc yc rK rV nk nl n2 k1 k2 k3 nf sk en fk fn fl fm iu sl sw sm rs Nk N2 C1 C2 C3 cl ck cv mk wk rm gk gn ge gv gp gq yk yv sp ye F L D N S A P sz qu qv hB hD => ?_)
  clear I
  subst qu qv
  unfold wpX_callsUsed wpY_callsUsed
  exact ⟨rfl, I0⟩
theorem i_vc_peakLive {k : Nat} {u : SX} {v : SY} (I : i_Rel k u v) (hk : k + 3 ≤ 1539) : wpX_peakLive (fun r => wpY_peakLive (fun r' => r' = r ∧ i_Rel (k + 3) u v) v) u := by
  have I0 := i_up I
  refine sc_RL_e I (fun hk hv st ev cu ec va vc dp rc hK hV ct wt lc yc rK rV nk nl n2 k1 k2 k3 nf sk en fk fn fl fm iu sl sw sm rs Nk N2 C1 C2 C3 cl ck cv mk wk rm gk gn ge gv gp gq yk yv sp ye F L D N S A P sz qu qv hB hD => ?_)
  clear I
  subst qu qv
  unfold wpX_peakLive wpY_peakLive
  exact ⟨rfl, I0⟩
theorem i_vc_freeVars {k : Nat} {u : SX} {v : SY} (I : i_Rel k u v) (hk : k + 3 ≤ 1539) (v1 : Int32) : wpX_freeVars (fun r => wpY_freeVars (fun r' => r' = r ∧ i_Rel (k + 3) u v) v v1) u v1 := by
  have I0 := i_up I
  refine sc_RL_e I (fun hk hv st ev cu ec va vc dp rc hK hV ct wt lc yc rK rV nk nl n2 k1 k2 k3 nf sk en fk fn fl fm iu sl sw sm rs Nk N2 C1 C2 C3 cl ck cv mk wk rm gk gn ge gv gp gq yk yv sp ye F L D N S A P sz qu qv hB hD => ?_)
  clear I
  subst qu qv
  have hN := hB.1.2.2.2.2.1
  unfold wpX_freeVars wpY_freeVars
  rcases pk_ix v1 (n := N) (by omega) with h | h | ⟨j, hj, rfl⟩
  · exact br_t h (br_t h ⟨rfl, I0⟩)
  · have h0 : ¬ v1 < 0 := fun z => absurd (Int32.lt_of_le_of_lt (Int32.le_trans (nI_pos' (by omega)) h) z) (by decide)
    have h1 : ¬ v1 < nI N := Int32.not_lt.mpr h
    exact br_f h0 (br_f h1 (br_f h0 (br_f h1 ⟨rfl, I0⟩)))
  · exact br_f (nI_pos (by omega)) (br_t (nI_lt hj (by omega)) ⟨vp_in_nI (by omega) (by omega), br_f (nI_pos (by omega)) (br_t (nI_lt hj (by omega)) ⟨vp_in_nI (by omega) (by omega), rfl, I0⟩)⟩)
end
