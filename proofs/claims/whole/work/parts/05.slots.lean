/-! the best mask by name; the slots, job by job -/
noncomputable def mj_best (φ τ ρ ω : Nat → Nat) (pm : Nat) : Nat := Classical.choose (mj_opt_ex (mj_us φ τ) (mj_pl ρ 12 0) (mj_k ω) pm)
theorem mj_best_sp (φ τ ρ ω : Nat → Nat) (pm : Nat) : mj_opt (mj_us φ τ) (mj_pl ρ 12 0) (mj_k ω) pm (mj_best φ τ ρ ω pm) :=
  Classical.choose_spec (mj_opt_ex (mj_us φ τ) (mj_pl ρ 12 0) (mj_k ω) pm)
theorem mj_least (P : Nat → Prop) (h : ∃ k, P k) : ∃ k, P k ∧ ∀ j, j < k → ¬ P j := by
  obtain ⟨k, hk⟩ := h
  revert hk
  refine Nat.strongRecOn (motive := fun k => P k → ∃ k, P k ∧ ∀ j, j < k → ¬ P j) k fun k ih hk => ?_
  by_cases g : ∃ j, j < k ∧ P j
  · obtain ⟨j, hj, pj⟩ := g
    exact ih j hj pj
  · exact ⟨k, hk, fun j hj pj => g ⟨j, hj, pj⟩⟩
def mj_cond (φ τ ρ : Nat → Nat) (j m s : Nat) : Prop :=
  mj_us φ τ j s ∧ s < 12 ∧ 0 < ρ s ∧ mj_G (mj_us φ τ) (mj_pl (mj_nu ρ s (ρ s - 1)) 12 0) (mj_ms m)
noncomputable def mj_fs (φ τ ρ : Nat → Nat) (j m : Nat) : Nat := Classical.epsilon (fun s => mj_cond φ τ ρ j m s ∧ ∀ t, t < s → ¬ mj_cond φ τ ρ j m t)
theorem mj_fs_sp {φ τ ρ : Nat → Nat} {j m : Nat} (h : ∃ s, mj_cond φ τ ρ j m s) : mj_cond φ τ ρ j m (mj_fs φ τ ρ j m) ∧ ∀ t, t < mj_fs φ τ ρ j m → ¬ mj_cond φ τ ρ j m t :=
  Classical.epsilon_spec (p := fun s => mj_cond φ τ ρ j m s ∧ ∀ t, t < s → ¬ mj_cond φ τ ρ j m t) (mj_least _ h)
theorem mj_pin {us : Nat → Nat → Prop} {ρ : Nat → Nat} {m j s : Nat} (hm : m < 128) (hs : s < 12) (hj : m.testBit j = true) :
    mj_G (fun i t => if i = j then t = s else us i t) (mj_pl ρ 12 0) (mj_ms m) ↔ 0 < ρ s ∧ mj_G us (mj_pl (mj_nu ρ s (ρ s - 1)) 12 0) (mj_ms (mj_cl m j)) := by
  rw [mj_ms_cl hm]
  constructor
  · intro h
    obtain ⟨t, ht, ut, h⟩ := mj_E _ j _ _ hj h
    have e : t = s := by simpa using ut
    subst e
    have hr := ((mj_pl_mem ρ 12 0 t).mp ht).2.2
    refine ⟨hr, ?_⟩
    rw [mj_pl_er ρ t hr 12 0 (by omega) (by omega)]
    refine mj_cg _ _ (fun i x hi _ hu => ?_) h
    have := (mj_rt.mp hi).2
    simpa [this] using hu
  · rintro ⟨hr, h⟩
    rw [mj_pl_er ρ s hr 12 0 (by omega) (by omega)] at h
    refine mj_ins _ s j _ _ ((mj_pl_mem ρ 12 0 s).mpr ⟨by omega, by omega, hr⟩) (by simp) hj (mj_cg _ _ (fun i x hi _ hu => ?_) h)
    have := (mj_rt.mp hi).2
    simpa [this] using hu
theorem mj_cond_ex {φ τ ρ : Nat → Nat} {j m : Nat} (hm : m < 128) (hj : m.testBit j = true) (h : mj_G (mj_us φ τ) (mj_pl ρ 12 0) (mj_ms m)) : ∃ s, mj_cond φ τ ρ j (mj_cl m j) s := by
  obtain ⟨s, hs, us, h⟩ := mj_E _ j _ _ hj h
  have hr := (mj_pl_mem ρ 12 0 s).mp hs
  refine ⟨s, us, by omega, hr.2.2, ?_⟩
  rw [mj_pl_er ρ s hr.2.2 12 0 (by omega) (by omega), mj_ms_cl hm]
  exact h
def mj_rest (o : Nat) : Nat → Nat
  | 0 => o
  | j + 1 => mj_cl (mj_rest o j) j
noncomputable def mj_run (φ τ ρ : Nat → Nat) (o : Nat) : Nat → Nat → Nat
  | 0 => ρ
  | j + 1 => if o.testBit j = true then mj_nu (mj_run φ τ ρ o j) (mj_fs φ τ (mj_run φ τ ρ o j) j (mj_rest o (j + 1))) (mj_run φ τ ρ o j (mj_fs φ τ (mj_run φ τ ρ o j) j (mj_rest o (j + 1))) - 1) else mj_run φ τ ρ o j
noncomputable def mj_slot (φ τ ρ : Nat → Nat) (o j : Nat) : Nat := mj_fs φ τ (mj_run φ τ ρ o j) j (mj_rest o (j + 1))
theorem mj_run_t {φ τ ρ : Nat → Nat} {o j : Nat} (h : o.testBit j = true) : mj_run φ τ ρ o (j + 1) = mj_nu (mj_run φ τ ρ o j) (mj_slot φ τ ρ o j) (mj_run φ τ ρ o j (mj_slot φ τ ρ o j) - 1) := by
  rw [mj_run, if_pos h]
  rfl
theorem mj_run_f {φ τ ρ : Nat → Nat} {o j : Nat} (h : o.testBit j = false) : mj_run φ τ ρ o (j + 1) = mj_run φ τ ρ o j := by
  rw [mj_run, if_neg (by rw [h]; decide)]
theorem mj_rest_lt {o : Nat} (h : o < 128) : ∀ j : Nat, mj_rest o j < 128
  | 0 => h
  | j + 1 => mj_cl_lt (mj_rest_lt h j) j
theorem mj_rest_b {o : Nat} (h : o < 128) : ∀ j i : Nat, (mj_rest o j).testBit i = true ↔ o.testBit i = true ∧ j ≤ i
  | 0, i => ⟨fun a => ⟨a, Nat.zero_le _⟩, fun a => a.1⟩
  | j + 1, i => by
    rw [mj_rest, mj_tb_cl (mj_rest_lt h j), mj_rest_b h j i]
    constructor
    · rintro ⟨⟨a, b⟩, c⟩
      exact ⟨a, by omega⟩
    · rintro ⟨a, b⟩
      exact ⟨⟨a, by omega⟩, by omega⟩
theorem mj_rest_f {o j : Nat} (h : o < 128) (hj : o.testBit j = false) : mj_rest o (j + 1) = mj_rest o j := by
  apply Nat.eq_of_testBit_eq
  intro i
  have a := mj_rest_b h (j + 1) i
  have b := mj_rest_b h j i
  have e : (mj_rest o (j + 1)).testBit i = true ↔ (mj_rest o j).testBit i = true := by
    rw [a, b]
    constructor
    · rintro ⟨x, y⟩; exact ⟨x, by omega⟩
    · rintro ⟨x, y⟩
      refine ⟨x, ?_⟩
      by_cases g : i = j
      · rw [g, hj] at x; cases x
      · omega
  exact Bool.eq_iff_iff.mpr e
theorem mj_run_ok {φ τ ρ : Nat → Nat} {o : Nat} (h : o < 128) (hg : mj_G (mj_us φ τ) (mj_pl ρ 12 0) (mj_ms o)) (hr : ∀ s, s < 12 → ρ s ≤ 4) :
    ∀ j : Nat, mj_G (mj_us φ τ) (mj_pl (mj_run φ τ ρ o j) 12 0) (mj_ms (mj_rest o j)) ∧ ∀ s, s < 12 → mj_run φ τ ρ o j s ≤ 4
  | 0 => ⟨hg, hr⟩
  | j + 1 => by
    obtain ⟨a, b⟩ := mj_run_ok h hg hr j
    cases e : o.testBit j with
    | true =>
      have c := (mj_fs_sp (mj_cond_ex (mj_rest_lt h j) ((mj_rest_b h j j).mpr ⟨e, Nat.le_refl _⟩) a)).1
      rw [mj_run_t e]
      refine ⟨c.2.2.2, fun s hs => ?_⟩
      have := b s hs
      unfold mj_nu
      split
      · rename_i g
        rw [← g]; omega
      · exact this
    | false =>
      rw [mj_run_f e, mj_rest_f h e]
      exact ⟨a, b⟩
theorem mj_slot_sp {φ τ ρ : Nat → Nat} {o j : Nat} (h : o < 128) (hg : mj_G (mj_us φ τ) (mj_pl ρ 12 0) (mj_ms o)) (hr : ∀ s, s < 12 → ρ s ≤ 4) (e : o.testBit j = true) :
    mj_cond φ τ (mj_run φ τ ρ o j) j (mj_rest o (j + 1)) (mj_slot φ τ ρ o j) ∧ ∀ t, t < mj_slot φ τ ρ o j → ¬ mj_cond φ τ (mj_run φ τ ρ o j) j (mj_rest o (j + 1)) t :=
  mj_fs_sp (mj_cond_ex (mj_rest_lt h j) ((mj_rest_b h j j).mpr ⟨e, Nat.le_refl _⟩) (mj_run_ok h hg hr j).1)
theorem mj_inv {φ τ ρ : Nat → Nat} {o : Nat} (h : o < 128) (hg : mj_G (mj_us φ τ) (mj_pl ρ 12 0) (mj_ms o)) (hr : ∀ s, s < 12 → ρ s ≤ 4) :
    ∀ (j : Nat) (us : Nat → Nat → Prop), mj_G (fun i s => if i < j then s = mj_slot φ τ ρ o i else us i s) (mj_pl ρ 12 0) (mj_ms o) ↔ mj_G us (mj_pl (mj_run φ τ ρ o j) 12 0) (mj_ms (mj_rest o j))
  | 0, us => by
    have e : (fun i s => if i < 0 then s = mj_slot φ τ ρ o i else us i s) = us := by
      funext i s
      rw [if_neg (by omega)]
    rw [e]
    exact Iff.rfl
  | j + 1, us => by
    cases e : o.testBit j with
    | true =>
      have ih := mj_inv h hg hr j (fun i t => if i = j then t = mj_slot φ τ ρ o j else us i t)
      have c := (mj_slot_sp h hg hr e).1
      have p := mj_pin (us := us) (ρ := mj_run φ τ ρ o j) (mj_rest_lt h j) c.2.1 ((mj_rest_b h j j).mpr ⟨e, Nat.le_refl _⟩)
      have f : (fun i s => if i < j + 1 then s = mj_slot φ τ ρ o i else us i s) = (fun i s => if i < j then s = mj_slot φ τ ρ o i else if i = j then s = mj_slot φ τ ρ o j else us i s) := by
        funext i s
        by_cases g : i < j
        · rw [if_pos g, if_pos (by omega)]
        · by_cases g2 : i = j
          · rw [if_neg g, if_pos g2, if_pos (by omega), g2]
          · rw [if_neg g, if_neg g2, if_neg (by omega)]
      rw [f, mj_run_t e]
      refine ih.trans (p.trans ⟨fun x => x.2, fun x => ⟨c.2.2.1, x⟩⟩)
    | false =>
      have ih := mj_inv h hg hr j us
      rw [mj_run_f e, mj_rest_f h e]
      refine Iff.trans ?_ ih
      have ne : ∀ i, mj_ms o i = true → i ≠ j := fun i hi g => by
        rw [g] at hi
        have hi : o.testBit j = true := hi
        rw [e] at hi; cases hi
      constructor
      · refine mj_cg _ _ fun i s hi _ hu => ?_
        have := ne i hi
        by_cases g : i < j
        · rw [if_pos (by omega)] at hu
          rw [if_pos g]; exact hu
        · rw [if_neg (by omega)] at hu
          rw [if_neg g]; exact hu
      · refine mj_cg _ _ fun i s hi _ hu => ?_
        have := ne i hi
        by_cases g : i < j
        · rw [if_pos g] at hu
          rw [if_pos (by omega)]; exact hu
        · rw [if_neg g] at hu
          rw [if_neg (by omega)]; exact hu
theorem mj_ycond {φ τ ρ : Nat → Nat} {o j s : Nat} (h : o < 128) (hg : mj_G (mj_us φ τ) (mj_pl ρ 12 0) (mj_ms o)) (hr : ∀ s, s < 12 → ρ s ≤ 4) (e : o.testBit j = true) (hs : s < 12) (hu : mj_us φ τ j s) :
    mj_G (fun i t => if i < j then t = mj_slot φ τ ρ o i else if i = j then t = s else mj_us φ τ i t) (mj_pl ρ 12 0) (mj_ms o) ↔ mj_cond φ τ (mj_run φ τ ρ o j) j (mj_rest o (j + 1)) s := by
  refine (mj_inv h hg hr j (fun i t => if i = j then t = s else mj_us φ τ i t)).trans ?_
  refine (mj_pin (us := mj_us φ τ) (ρ := mj_run φ τ ρ o j) (mj_rest_lt h j) hs ((mj_rest_b h j j).mpr ⟨e, Nat.le_refl _⟩)).trans ?_
  exact ⟨fun x => ⟨hu, hs, x.1, x.2⟩, fun x => ⟨x.2.2.1, x.2.2.2⟩⟩
