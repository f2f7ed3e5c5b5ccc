/-! numbers and bits (the pk_ rows are the kit's rows to paste) -/
theorem pk_us {f : Nat → Int32} {k : Nat} {x : Int32} : upd f k x k = x := if_pos rfl
theorem pk_un {f : Nat → Int32} {k j : Nat} {x : Int32} (h : j ≠ k) : upd f k x j = f j := if_neg h
theorem pk_m1 (n : Nat) : nI (n + 1) + (-1) = nI n := by
  rw [← nI_1, Int32.add_assoc, show (1 : Int32) + (-1) = 0 from rfl, Int32.add_zero]
theorem pk_ix (x : Int32) {n : Nat} (hn : n < 2 ^ 31) : x < 0 ∨ nI n ≤ x ∨ ∃ j : Nat, j < n ∧ x = nI j := by
  by_cases h : x < 0
  · exact Or.inl h
  · obtain ⟨j, hj, rfl⟩ := nI_of h
    by_cases h2 : j < n
    · exact Or.inr (Or.inr ⟨j, h2, rfl⟩)
    · exact Or.inr (Or.inl (nI_le (by omega) hj))
theorem pk_le {x y : Int32} {A B : Prop} (a b : Nat) (f : a ≤ b → A) (g : b < a → B) (hx : x = nI a := by rfl) (hy : y = nI b := by rfl) (ha : a < 2 ^ 31 := by omega) (hb : b < 2 ^ 31 := by omega) : (x ≤ y → A) ∧ (¬ x ≤ y → B) := by
  subst hx hy
  rw [nI_leI ha hb]
  exact ⟨f, fun z => g (by omega)⟩
theorem pk_lt {x y : Int32} {A B : Prop} (a b : Nat) (f : a < b → A) (g : b ≤ a → B) (hx : x = nI a := by rfl) (hy : y = nI b := by rfl) (ha : a < 2 ^ 31 := by omega) (hb : b < 2 ^ 31 := by omega) : (x < y → A) ∧ (¬ x < y → B) := by
  subst hx hy
  rw [nI_ltI ha hb]
  exact ⟨f, fun z => g (by omega)⟩
theorem pk_eq {x y : Int32} {A B : Prop} (a b : Nat) (f : a = b → A) (g : a ≠ b → B) (hx : x = nI a := by rfl) (hy : y = nI b := by rfl) (ha : a < 2 ^ 31 := by omega) (hb : b < 2 ^ 31 := by omega) : (x = y → A) ∧ (¬ x = y → B) := by
  subst hx hy
  rw [nI_eq ha hb]
  exact ⟨f, g⟩
theorem pk_in {x : Int32} (n N : Nat) (h : n < N) (hx : x = nI n := by rfl) (hN : N < 2 ^ 31 := by omega) : vp_in x N := by
  subst hx
  exact vp_in_nI h hN
theorem pk_cl {x : Int32} (n : Nat) (hx : x = nI n := by rfl) (h : n < 2 ^ 31 := by omega) : x.toNatClampNeg = n := by
  subst hx
  exact nI_clamp h
theorem mt_at {A : Nat → Int32} {α : Nat → Nat} {n i : Nat} (h : ∀ i, i < n → A i = nI (α i)) (hi : i < n) (hn : n < 2 ^ 31 := by omega) : A (nI i).toNatClampNeg = nI (α i) := by
  rw [nI_clamp (by omega)]
  exact h i hi
theorem mt_bit : ∀ m : Nat, m < 128 → ∀ j : Nat, j < 7 → ((nI m &&& ((1 : Int32) <<< (nI j &&& 31)) = 0) ↔ m.testBit j = false) := by decide +kernel
theorem mt_shr : ∀ m : Nat, m < 128 → ∀ j : Nat, j < 7 → ((nI m >>> (nI j &&& 31)) &&& 1) = nI (if m.testBit j = true then 1 else 0) := by decide +kernel
theorem mt_cl : ∀ m : Nat, m < 128 → ∀ j : Nat, j < 7 → nI m &&& (((1 : Int32) <<< (nI j &&& 31)) ^^^ (-1)) = nI (mj_cl m j) := by decide +kernel
theorem mt_or : ∀ m : Nat, m < 128 → ∀ j : Nat, j < 7 → nI m ||| ((1 : Int32) <<< (nI j &&& 31)) = nI (m ||| 2 ^ j) := by decide +kernel
theorem mt_n0 : ∀ m : Nat, m < 128 → nI m &&& ((0 : Int32) ^^^ (-1)) = nI m := by decide +kernel
theorem mt_o0 : ∀ m : Nat, m < 128 → nI m ||| (0 : Int32) = nI m := by decide +kernel
theorem mt_127 : ∀ m : Nat, m < 128 → nI m &&& 127 = nI m := by decide +kernel
theorem mt_bi (m : Nat) {i : Nat} (hi : i < 32) : (nI m).toBitVec.getLsbD i = m.testBit i := by
  show (BitVec.ofNat 32 m).getLsbD i = _
  rw [BitVec.getLsbD_ofNat]
  simp [hi]
theorem mt_of (x : Int32) : ∃ n, n < 2 ^ 32 ∧ x = nI n :=
  ⟨x.toBitVec.toNat, x.toBitVec.isLt, Int32.toBitVec_inj.mp (BitVec.eq_of_toNat_eq (by
    show _ = (BitVec.ofNat 32 x.toBitVec.toNat).toNat
    rw [BitVec.toNat_ofNat, Nat.mod_eq_of_lt x.toBitVec.isLt]))⟩
theorem mt_m1 : ∀ i : Nat, i < 32 → (-1 : Int32).toBitVec.getLsbD i = true := by decide +kernel
theorem mt_sub (x : Int32) {m : Nat} (hm : m < 128) (h : x &&& (nI m ^^^ (-1)) = 0) : ∃ w, w < 128 ∧ x = nI w ∧ mj_sb w m := by
  obtain ⟨w, hw, rfl⟩ := mt_of x
  have sb : mj_sb w m := by
    intro i hi
    rcases Nat.lt_or_ge i 32 with g | g
    · have a : (nI w &&& (nI m ^^^ (-1))).toBitVec.getLsbD i = false := by
        rw [h]; exact BitVec.getLsbD_zero
      rw [Int32.toBitVec_and, Int32.toBitVec_xor, BitVec.getLsbD_and, BitVec.getLsbD_xor, mt_bi w g, mt_bi m g, mt_m1 i g, hi] at a
      simpa using a
    · rw [Nat.testBit_lt_two_pow (Nat.lt_of_lt_of_le hw (Nat.pow_le_pow_right (by omega) g))] at hi
      cases hi
  refine ⟨w, ?_, rfl, sb⟩
  have : w &&& m = w := Nat.eq_of_testBit_eq fun i => by
    rw [Nat.testBit_and]
    cases a : w.testBit i with
    | true => rw [sb i a]; rfl
    | false => rfl
  rw [← this]
  exact Nat.lt_of_le_of_lt Nat.and_le_right hm
theorem mt_sub' {w m : Nat} (hw : w < 128) (hm : m < 128) (h : mj_sb w m) : nI w &&& (nI m ^^^ (-1)) = 0 := by
  apply Int32.toBitVec_inj.mp
  apply BitVec.eq_of_getLsbD_eq
  intro i hi
  rw [Int32.toBitVec_and, Int32.toBitVec_xor, BitVec.getLsbD_and, BitVec.getLsbD_xor, mt_bi w hi, mt_bi m hi, mt_m1 i hi]
  have e : (0 : Int32).toBitVec.getLsbD i = false := BitVec.getLsbD_zero
  rw [e]
  cases a : w.testBit i with
  | true => rw [h i a]; rfl
  | false => rfl
theorem mt_vn1 : vp_nar .boolean 1 = 1 := by decide
theorem mt_vn0 : vp_nar .boolean 0 = 0 := by decide
theorem mt_na1 : narrow .boolean (.int 1) = .int 1 := rfl
theorem mt_na0 : narrow .boolean (.int 0) = .int 0 := rfl
