/-! ===== the relation: values, rows, heap, frames, program ===== -/
def sc_bi : Bool → Int32
  | true => 1
  | false => 0
theorem sc_bit (m : Int32) {y : Nat} (hy : y < 32) : ((m >>> (nI y &&& 31)) &&& 1) = 0 ↔ bt m y = false := by
  have e0 : bt (m >>> (nI y &&& 31)) 0 = bt m y := by
    rw [b_sshr y hy m (by omega), if_pos (by omega), Nat.add_zero]
  constructor
  · intro h
    have h0 : bt ((m >>> (nI y &&& 31)) &&& 1) 0 = false := by rw [h]; exact b_0 0
    rw [b_and, e0, (by decide : bt 1 0 = true), Bool.and_true] at h0
    exact h0
  · intro h
    apply b_ext
    intro i hi
    rw [b_and, b_0]
    rcases Nat.eq_zero_or_pos i with z | z
    · subst z
      rw [e0, h]; rfl
    · rw [(by decide +kernel : ∀ i, i < 32 → 0 < i → bt 1 i = false) i hi z, Bool.and_false]
theorem sc_sh1 : ∀ x, x < 8 → ∀ y, y < 32 → bt ((1 : Int32) <<< (nI x &&& 31)) y = decide (y = x) := by decide +kernel
theorem sc_bs {m : Int32} {x y : Nat} (hx : x < 8) (hy : y < 32) : bt (m ||| ((1 : Int32) <<< (nI x &&& 31))) y = (bt m y || decide (y = x)) := by rw [b_or, sc_sh1 x hx y hy]
theorem sc_bc {m : Int32} {x y : Nat} (hx : x < 8) (hy : y < 32) : bt (m &&& (((1 : Int32) <<< (nI x &&& 31)) ^^^ (-1))) y = (bt m y && !decide (y = x)) := by rw [b_and, b_xor, sc_sh1 x hx y hy, b_m1 y hy, Bool.xor_true]
/-- one value on both sides: an int, or a closure whose slot s stands for the reference's g s -/
def sc_VR (g : Nat → Nat) (U : Nat → Prop) (v : Int32) (c : Bool) (k w : Int32) : Prop := (c = false ∧ k = 1 ∧ w = v) ∨ (c = true ∧ k = 2 ∧ ∃ s, U s ∧ v = nI s ∧ w = nI (g s))
/-- a row of eight, where the mask m asks -/
def sc_RW (g : Nat → Nat) (U : Nat → Prop) (m : Int32) (r : Nat → Int32) (c : Int32) (k w : Nat → Int32) : Prop := ∀ y, y < 8 → bt m y = true → sc_VR g U (r y) (bt c y) (k y) (w y)
/-- closures stand only where m asks -/
def sc_CM (m c : Int32) : Prop := ∀ y, y < 8 → bt c y = true → bt m y = true
/-- slots and the reference's closures: U is in use and known, g names the reference's -/
def sc_HB (g : Nat → Nat) (U : Nat → Prop) (iu : Nat → Int32) (top : Nat) : Prop := (∀ s, U s → s < 34 ∧ iu s = 1 ∧ g s < top) ∧ (∀ s t, U s → U t → g s = g t → s = t)
/-- one closure on both sides -/
def sc_HN (g : Nat → Nat) (U : Nat → Prop) (n0 : Nat) (kd fv sl slv slc cl ck cv : Nat → Int32) (s : Nat) : Prop := ∃ l, l < n0 ∧ kd l = 2 ∧ sl s = nI l ∧ cl (g s) = nI l ∧ sc_RW g U (fv l) (fun y => slv (s * 8 + y)) (slc s) (fun y => ck (g s * 8 + y)) (fun y => cv (g s * 8 + y)) ∧ sc_CM (fv l) (slc s) ∧ ∀ y, y < 8 → bt (fv l) y = false → ¬ ck (g s * 8 + y) = 2
/-- at most m slots are in use -/
def sc_IU (m : Nat) (iu : Nat → Int32) : Prop := (∀ s, s < 34 → iu s = 0 ∨ iu s = 1) ∧ ∃ (c : Nat) (q : Nat → Nat), c ≤ m ∧ ∀ s, s < 34 → iu s = 1 → ∃ i, i < c ∧ q i = s
/-- the node i, on both sides; sz is its size -/
def sc_nd (sz : Nat → Nat) (kd lb s2 c1 c2 c3 fv kd' a2' c1' c2' c3' : Nat → Int32) (i : Nat) : Prop :=
  (1 ≤ sz i ∧ sz i ≤ 32) ∧
  ((kd i = 0 ∧ kd' i = 1) ∨
   (kd i = 1 ∧ kd' i = 2 ∧ ∃ x, x < 8 ∧ lb i = nI x ∧ bt (fv i) x = true) ∨
   (kd i = 2 ∧ kd' i = 3 ∧ ∃ x b, x < 8 ∧ b < i ∧ lb i = nI x ∧ c1 i = nI b ∧ c1' i = nI b ∧ sz i = 1 + sz b ∧ ∀ y, y < 8 → bt (fv b) y = true → y ≠ x → bt (fv i) y = true) ∨
   (((kd i = 3 ∧ kd' i = 4) ∨ (kd i = 4 ∧ kd' i = 5)) ∧ ∃ a b, a < i ∧ b < i ∧ c1 i = nI a ∧ c2 i = nI b ∧ c1' i = nI a ∧ c2' i = nI b ∧ sz i = 1 + sz a + sz b ∧ (∀ y, y < 8 → bt (fv a) y = true → bt (fv i) y = true) ∧ ∀ y, y < 8 → bt (fv b) y = true → bt (fv i) y = true) ∨
   (kd i = 5 ∧ kd' i = 6 ∧ ∃ a b e, a < i ∧ b < i ∧ e < i ∧ c1 i = nI a ∧ c2 i = nI b ∧ c3 i = nI e ∧ c1' i = nI a ∧ c2' i = nI b ∧ c3' i = nI e ∧ sz i = 1 + sz a + sz b + sz e ∧ (∀ y, y < 8 → bt (fv a) y = true → bt (fv i) y = true) ∧ (∀ y, y < 8 → bt (fv b) y = true → bt (fv i) y = true) ∧ ∀ y, y < 8 → bt (fv e) y = true → bt (fv i) y = true) ∨
   (kd i = 6 ∧ kd' i = 7 ∧ ∃ x a b, x < 8 ∧ a < i ∧ b < i ∧ lb i = nI x ∧ c1 i = nI a ∧ c2 i = nI b ∧ c1' i = nI a ∧ c2' i = nI b ∧ sz i = 1 + sz a + sz b ∧ (∀ y, y < 8 → bt (fv a) y = true → bt (fv i) y = true) ∧ ∀ y, y < 8 → bt (fv b) y = true → y ≠ x → bt (fv i) y = true) ∨
   (kd i = 7 ∧ kd' i = 8 ∧ ∃ x l b, x < 8 ∧ l < i ∧ b < i ∧ lb i = nI x ∧ kd l = 2 ∧ c1 i = nI l ∧ c2 i = nI b ∧ c1' i = nI l ∧ c2' i = -1 ∧ c3' i = nI b ∧ sz i = 1 + sz l + sz b ∧ (∀ y, y < 8 → bt (fv l) y = true → y ≠ x → bt (fv i) y = true) ∧ ∀ y, y < 8 → bt (fv b) y = true → y ≠ x → bt (fv i) y = true) ∨
   (kd i = 8 ∧ kd' i = 8 ∧ ∃ x z l m b, x < 8 ∧ z < 8 ∧ x ≠ z ∧ l < i ∧ m < i ∧ b < i ∧ lb i = nI x ∧ s2 i = nI z ∧ a2' i = nI z ∧ kd l = 2 ∧ kd m = 2 ∧ c1 i = nI l ∧ c2 i = nI m ∧ c3 i = nI b ∧ c1' i = nI l ∧ c2' i = nI m ∧ c3' i = nI b ∧ sz i = 1 + sz l + sz m + sz b ∧ (∀ y, y < 8 → bt (fv l) y = true → y ≠ x → y ≠ z → bt (fv i) y = true) ∧ (∀ y, y < 8 → bt (fv m) y = true → y ≠ x → y ≠ z → bt (fv i) y = true) ∧ ∀ y, y < 8 → bt (fv b) y = true → y ≠ x → y ≠ z → bt (fv i) y = true))
/-- one frame on both sides; w is its weight -/
def sc_FO (g : Nat → Nat) (U : Nat → Prop) (n0 : Nat) (sz : Nat → Nat) (lb c2 c3 fv c2' c3' fk fn fvl fc gk gn gek gev gvk gvv : Nat → Int32) (i w : Nat) : Prop :=
  ∃ n, n < n0 ∧ fn i = nI n ∧ gn i = nI n ∧
  ((((fk i = 0 ∧ gk i = 1) ∨ (fk i = 2 ∧ gk i = 3)) ∧ ∃ b, b < n0 ∧ c2 n = nI b ∧ c2' n = nI b ∧ w = 3 * sz b + 2 ∧ sc_RW g U (fv b) (fun y => fvl (i * 8 + y)) (fc i) (fun y => gek (i * 8 + y)) (fun y => gev (i * 8 + y)) ∧ sc_CM (fv b) (fc i)) ∨
   (((fk i = 1 ∧ gk i = 2) ∨ (fk i = 3 ∧ gk i = 4)) ∧ w = 1 ∧ ∃ c, fc i = sc_bi c ∧ sc_VR g U (fvl (i * 8)) c (gvk i) (gvv i)) ∨
   (fk i = 4 ∧ gk i = 5 ∧ ∃ b e, b < n0 ∧ e < n0 ∧ c2 n = nI b ∧ c2' n = nI b ∧ c3 n = nI e ∧ c3' n = nI e ∧ w = 3 * (sz b + sz e) + 1 ∧ sc_RW g U (fv b ||| fv e) (fun y => fvl (i * 8 + y)) (fc i) (fun y => gek (i * 8 + y)) (fun y => gev (i * 8 + y)) ∧ sc_CM (fv b ||| fv e) (fc i)) ∨
   (fk i = 5 ∧ gk i = 6 ∧ ∃ x b, x < 8 ∧ b < n0 ∧ lb n = nI x ∧ c2 n = nI b ∧ c2' n = nI b ∧ w = 3 * sz b + 1 ∧ sc_RW g U (fv b &&& (((1 : Int32) <<< (nI x &&& 31)) ^^^ (-1))) (fun y => fvl (i * 8 + y)) (fc i) (fun y => gek (i * 8 + y)) (fun y => gev (i * 8 + y)) ∧ sc_CM (fv b &&& (((1 : Int32) <<< (nI x &&& 31)) ^^^ (-1))) (fc i)))
