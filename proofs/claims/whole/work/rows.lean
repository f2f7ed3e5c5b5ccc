section
/-! sets of jobs as Bool functions; a list of places; mj_G: the set can be placed -/
def mj_rm (W : Nat → Bool) (j : Nat) : Nat → Bool := fun i => W i && !decide (i = j)
def mj_ad (W : Nat → Bool) (j : Nat) : Nat → Bool := fun i => W i || decide (i = j)
def mj_G (us : Nat → Nat → Prop) : List Nat → (Nat → Bool) → Prop
  | [], W => ∀ i, W i = false
  | s :: L, W => mj_G us L W ∨ ∃ j, W j = true ∧ us j s ∧ mj_G us L (mj_rm W j)
theorem mj_rr (W : Nat → Bool) (i j : Nat) : mj_rm (mj_rm W i) j = mj_rm (mj_rm W j) i := by
  funext k; exact Bool.and_right_comm _ _ _
theorem mj_rt {W : Nat → Bool} {i k : Nat} : mj_rm W k i = true ↔ W i = true ∧ i ≠ k := by simp [mj_rm]
theorem mj_at {W : Nat → Bool} {i k : Nat} : mj_ad W k i = true ↔ W i = true ∨ i = k := by simp [mj_ad]
theorem mj_rf {W : Nat → Bool} {i k : Nat} (h : W i = false) : mj_rm W k i = false := by simp [mj_rm, h]
theorem mj_rs {W : Nat → Bool} {k : Nat} : mj_rm W k k = false := by simp [mj_rm]
theorem mj_rn {W : Nat → Bool} {i k : Nat} (h : mj_rm W k i = false) (hn : i ≠ k) : W i = false := by
  simpa [mj_rm, hn] using h
theorem mj_nf {x : Bool} (h : ¬ x = true) : x = false := by simpa using h
theorem mj_sub (us : Nat → Nat → Prop) : ∀ (L : List Nat) (W V : Nat → Bool), (∀ i, V i = true → W i = true) → mj_G us L W → mj_G us L V
  | [], W, V, hs, h => fun i => mj_nf fun hv => by have := h i; rw [hs i hv] at this; cases this
  | s :: L, W, V, hs, h => by
    rcases h with h | ⟨k, hk, hu, h⟩
    · exact Or.inl (mj_sub us L W V hs h)
    · by_cases hv : V k = true
      · exact Or.inr ⟨k, hv, hu, mj_sub us L _ _ (fun i hi => mj_rt.mpr ⟨hs i (mj_rt.mp hi).1, (mj_rt.mp hi).2⟩) h⟩
      · exact Or.inl (mj_sub us L (mj_rm W k) V (fun i hi => mj_rt.mpr ⟨hs i hi, fun (e : i = k) => hv (e ▸ hi)⟩) h)
theorem mj_her (us : Nat → Nat → Prop) (L : List Nat) (W : Nat → Bool) (j : Nat) (h : mj_G us L W) : mj_G us L (mj_rm W j) :=
  mj_sub us L W _ (fun _ hi => (mj_rt.mp hi).1) h
theorem mj_cg {us us' : Nat → Nat → Prop} : ∀ (L : List Nat) (W : Nat → Bool), (∀ i s, W i = true → s ∈ L → us i s → us' i s) → mj_G us L W → mj_G us' L W
  | [], _, _, h => h
  | s :: L, W, hc, h => by
    rcases h with h | ⟨k, hk, hu, h⟩
    · exact Or.inl (mj_cg L W (fun i t hi ht => hc i t hi (List.mem_cons_of_mem _ ht)) h)
    · exact Or.inr ⟨k, hk, hc k s hk List.mem_cons_self hu, mj_cg L _ (fun i t hi ht => hc i t (mj_rt.mp hi).1 (List.mem_cons_of_mem _ ht)) h⟩
theorem mj_swap (us : Nat → Nat → Prop) (i j : Nat) (hij : i ≠ j) : ∀ (L : List Nat) (W : Nat → Bool), W i = true → W j = true → (∀ t, t ∈ L → us j t → us i t) → mj_G us L (mj_rm W i) → mj_G us L (mj_rm W j)
  | [], W, hi, hj, _, h => by
    have := h j
    rw [mj_rt.mpr ⟨hj, Ne.symm hij⟩] at this
    cases this
  | t :: L, W, hi, hj, hu, h => by
    have hu' : ∀ t, t ∈ L → us j t → us i t := fun t ht => hu t (List.mem_cons_of_mem _ ht)
    rcases h with h | ⟨k, hk, uk, h⟩
    · exact Or.inl (mj_swap us i j hij L W hi hj hu' h)
    · obtain ⟨hk, hki⟩ := mj_rt.mp hk
      by_cases e : k = j
      · subst e
        exact Or.inr ⟨i, mj_rt.mpr ⟨hi, hij⟩, hu t List.mem_cons_self uk, by rw [mj_rr]; exact h⟩
      · refine Or.inr ⟨k, mj_rt.mpr ⟨hk, e⟩, uk, ?_⟩
        rw [mj_rr]
        rw [mj_rr] at h
        exact mj_swap us i j hij L _ (mj_rt.mpr ⟨hi, Ne.symm hki⟩) (mj_rt.mpr ⟨hj, Ne.symm e⟩) hu' h
theorem mj_gr (us : Nat → Nat → Prop) {s : Nat} {L : List Nat} {W : Nat → Bool} {j : Nat} (hj : W j = true) (hu : us j s) (hm : ∀ i, W i = true → us i s → ∀ t, t ∈ L → us j t → us i t) : mj_G us (s :: L) W ↔ mj_G us L (mj_rm W j) := by
  constructor
  · intro h
    rcases h with h | ⟨i, hi, ui, h⟩
    · exact mj_her us L W j h
    · by_cases e : i = j
      · subst e; exact h
      · exact mj_swap us i j e L W hi hj (hm i hi ui) h
  · intro h
    exact Or.inr ⟨j, hj, hu, h⟩
theorem mj_no (us : Nat → Nat → Prop) {s : Nat} {L : List Nat} {W : Nat → Bool} (hn : ∀ i, W i = true → ¬ us i s) : mj_G us (s :: L) W ↔ mj_G us L W := by
  constructor
  · intro h
    rcases h with h | ⟨i, hi, ui, _⟩
    · exact h
    · exact absurd ui (hn i hi)
  · exact Or.inl
theorem mj_app (us : Nat → Nat → Prop) (s : Nat) : ∀ (L : List Nat) (W : Nat → Bool), mj_G us (L ++ [s]) W ↔ mj_G us L W ∨ ∃ j, W j = true ∧ us j s ∧ mj_G us L (mj_rm W j)
  | [], W => Iff.rfl
  | t :: L, W => by
    have ih := mj_app us s L
    constructor
    · rintro (h | ⟨i, hi, ui, h⟩)
      · rcases (ih W).mp h with h | ⟨j, hj, uj, h⟩
        · exact .inl (.inl h)
        · exact .inr ⟨j, hj, uj, .inl h⟩
      · rcases (ih _).mp h with h | ⟨j, hj, uj, h⟩
        · exact .inl (.inr ⟨i, hi, ui, h⟩)
        · have hj' := mj_rt.mp hj
          exact .inr ⟨j, hj'.1, uj, .inr ⟨i, mj_rt.mpr ⟨hi, Ne.symm hj'.2⟩, ui, by rw [mj_rr]; exact h⟩⟩
    · rintro ((h | ⟨i, hi, ui, h⟩) | ⟨j, hj, uj, (h | ⟨i, hi, ui, h⟩)⟩)
      · exact .inl ((ih W).mpr (.inl h))
      · exact .inr ⟨i, hi, ui, (ih _).mpr (.inl h)⟩
      · exact .inl ((ih W).mpr (.inr ⟨j, hj, uj, h⟩))
      · have hi' := mj_rt.mp hi
        exact .inr ⟨i, hi'.1, ui, (ih _).mpr (.inr ⟨j, mj_rt.mpr ⟨hj, Ne.symm hi'.2⟩, uj, by rw [mj_rr]; exact h⟩)⟩
theorem mj_e1 {O : Nat → Bool} {e o : Nat} (h : o ≠ e) : mj_rm (mj_ad O e) o = mj_ad (mj_rm O o) e := by
  funext k
  simp only [mj_rm, mj_ad]
  by_cases h1 : k = e <;> by_cases h2 : k = o <;> simp_all
theorem mj_e2 {O : Nat → Bool} {e o y : Nat} (h : o ≠ e) : mj_rm (mj_ad (mj_rm O y) e) o = mj_ad (mj_rm (mj_rm O o) y) e := by
  rw [mj_e1 h, mj_rr]
theorem mj_e3 {O : Nat → Bool} {e : Nat} (h : O e = false) : mj_rm (mj_ad O e) e = O := by
  funext k
  simp only [mj_rm, mj_ad]
  by_cases h1 : k = e <;> simp_all
theorem mj_e4 {O : Nat → Bool} {o : Nat} (h : O o = true) : mj_ad (mj_rm O o) o = O := by
  funext k
  simp only [mj_rm, mj_ad]
  by_cases h1 : k = o <;> simp_all
theorem mj_e5 {O : Nat → Bool} {o y : Nat} (h : O o = true) (hn : o ≠ y) : mj_ad (mj_rm (mj_rm O o) y) o = mj_rm O y := by
  rw [mj_rr]
  exact mj_e4 (mj_rt.mpr ⟨h, hn⟩)
theorem mj_e6 {O : Nat → Bool} {o a e : Nat} (h : O o = true) (hn : o ≠ a) : mj_ad (mj_ad (mj_rm (mj_rm O o) a) e) o = mj_ad (mj_rm O a) e := by
  funext k
  simp only [mj_rm, mj_ad]
  by_cases h1 : k = o <;> by_cases h2 : k = a <;> by_cases h3 : k = e <;> simp_all
theorem mj_e7 {O : Nat → Bool} {o a e y : Nat} (h : O o = true) (h1 : o ≠ a) (h2 : o ≠ y) (h3 : a ≠ e) (h4 : y ≠ e) : mj_ad (mj_rm (mj_ad (mj_rm (mj_rm O o) a) e) y) o = mj_rm (mj_ad (mj_rm O y) e) a := by
  funext k
  simp only [mj_rm, mj_ad]
  by_cases g1 : k = o
  · subst g1; simp [h, h1, h2]
  · by_cases g2 : k = a
    · subst g2; simp [h3, g1]
    · by_cases g3 : k = e
      · subst g3; simp [Ne.symm h4, g2]
      · by_cases g4 : k = y
        · subst g4; simp [g1, g3]
        · simp [g1, g2, g3, g4]
theorem mj_ex (us : Nat → Nat → Prop) : ∀ (L : List Nat) (A O : Nat → Bool) (e : Nat), A e = true → O e = false → mj_G us L A → mj_G us L O → mj_G us L (mj_ad O e) ∨ ∃ y, O y = true ∧ A y = false ∧ mj_G us L (mj_ad (mj_rm O y) e)
  | [], A, O, e, hA, _, gA, _ => by
    have := gA e
    rw [hA] at this
    cases this
  | t :: L, A, O, e, hA, hO, gA, gO => by
    have ih := mj_ex us L
    have ne : ∀ o, O o = true → o ≠ e := fun o ho h => by rw [h, hO] at ho; cases ho
    rcases gA with gA | ⟨a, ha, ua, gA⟩
    · rcases gO with gO | ⟨o, ho, uo, gO⟩
      · rcases ih A O e hA hO gA gO with h | ⟨y, hy, hy', h⟩
        · exact .inl (.inl h)
        · exact .inr ⟨y, hy, hy', .inl h⟩
      · rcases ih A (mj_rm O o) e hA (mj_rf hO) gA gO with h | ⟨y, hy, hy', h⟩
        · exact .inl (.inr ⟨o, mj_at.mpr (.inl ho), uo, by rw [mj_e1 (ne o ho)]; exact h⟩)
        · exact .inr ⟨y, (mj_rt.mp hy).1, hy', .inr ⟨o, mj_at.mpr (.inl (mj_rt.mpr ⟨ho, Ne.symm (mj_rt.mp hy).2⟩)), uo, by rw [mj_e2 (ne o ho)]; exact h⟩⟩
    · by_cases hae : a = e
      · subst hae
        rcases gO with gO | ⟨o, ho, uo, gO⟩
        · exact .inl (.inr ⟨a, mj_at.mpr (.inr rfl), ua, by rw [mj_e3 hO]; exact gO⟩)
        · by_cases hoA : A o = true
          · rcases ih (mj_rm A a) (mj_rm O o) o (mj_rt.mpr ⟨hoA, ne o ho⟩) mj_rs gA gO with h | ⟨y, hy, hy', h⟩
            · rw [mj_e4 ho] at h
              exact .inl (.inr ⟨a, mj_at.mpr (.inr rfl), ua, by rw [mj_e3 hO]; exact h⟩)
            · have hy1 := mj_rt.mp hy
              rw [mj_e5 ho (Ne.symm hy1.2)] at h
              exact .inr ⟨y, hy1.1, mj_rn hy' (ne y hy1.1), .inr ⟨a, mj_at.mpr (.inr rfl), ua, by rw [mj_e3 (mj_rf hO)]; exact h⟩⟩
          · exact .inr ⟨o, ho, mj_nf hoA, .inr ⟨a, mj_at.mpr (.inr rfl), ua, by rw [mj_e3 (mj_rf hO)]; exact gO⟩⟩
      · have hA' : mj_rm A a e = true := mj_rt.mpr ⟨hA, Ne.symm hae⟩
        rcases gO with gO | ⟨o, ho, uo, gO⟩
        · rcases ih (mj_rm A a) O e hA' hO gA gO with h | ⟨y, hy, hy', h⟩
          · exact .inl (.inl h)
          · by_cases hya : y = a
            · subst hya
              exact .inl (.inr ⟨y, mj_at.mpr (.inl hy), ua, by rw [mj_e1 hae]; exact h⟩)
            · exact .inr ⟨y, hy, mj_rn hy' hya, .inl h⟩
        · by_cases hao : a = o
          · subst hao
            rcases ih (mj_rm A a) (mj_rm O a) e hA' (mj_rf hO) gA gO with h | ⟨y, hy, hy', h⟩
            · exact .inl (.inr ⟨a, mj_at.mpr (.inl ho), ua, by rw [mj_e1 hae]; exact h⟩)
            · have hy1 := mj_rt.mp hy
              exact .inr ⟨y, hy1.1, mj_rn hy' hy1.2, .inr ⟨a, mj_at.mpr (.inl (mj_rt.mpr ⟨ho, Ne.symm hy1.2⟩)), ua, by rw [mj_e2 hae]; exact h⟩⟩
          · rcases ih (mj_rm A a) (mj_rm O o) e hA' (mj_rf hO) gA gO with h | ⟨y, hy, hy', h⟩
            · exact .inl (.inr ⟨o, mj_at.mpr (.inl ho), uo, by rw [mj_e1 (ne o ho)]; exact h⟩)
            · have hy1 := mj_rt.mp hy
              by_cases hya : y = a
              · subst hya
                by_cases hoA : A o = true
                · have hO' : mj_ad (mj_rm (mj_rm O o) y) e o = false := by
                    have := ne o ho
                    simp [mj_ad, mj_rm, this]
                  rcases ih (mj_rm A y) _ o (mj_rt.mpr ⟨hoA, Ne.symm hao⟩) hO' gA h with h2 | ⟨z, hz, hz', h2⟩
                  · rw [mj_e6 ho (Ne.symm hao)] at h2
                    exact .inl (.inr ⟨y, mj_at.mpr (.inl hy1.1), ua, by rw [mj_e1 hae]; exact h2⟩)
                  · have hzy : z ≠ y := by
                      intro hzy
                      subst hzy
                      simp [mj_ad, mj_rm, hae] at hz
                    have hzA := mj_rn hz' hzy
                    have hze : z ≠ e := by
                      intro h0
                      rw [h0, hA] at hzA
                      cases hzA
                    have hz1 : O z = true ∧ z ≠ o := by
                      rcases mj_at.mp hz with h0 | h0
                      · have := mj_rt.mp (mj_rt.mp h0).1
                        exact this
                      · exact absurd h0 hze
                    rw [mj_e7 ho (Ne.symm hao) (Ne.symm hz1.2) hae hze] at h2
                    exact .inr ⟨z, hz1.1, hzA, .inr ⟨y, mj_at.mpr (.inl (mj_rt.mpr ⟨hy1.1, Ne.symm hzy⟩)), ua, h2⟩⟩
                · exact .inr ⟨o, ho, mj_nf hoA, .inr ⟨y, mj_at.mpr (.inl hy), ua, by rw [mj_e1 hae]; exact h⟩⟩
              · exact .inr ⟨y, hy1.1, mj_rn hy' hya, .inr ⟨o, mj_at.mpr (.inl (mj_rt.mpr ⟨ho, Ne.symm hy1.2⟩)), uo, by rw [mj_e2 (ne o ho)]; exact h⟩⟩
theorem mj_mono (us : Nat → Nat → Prop) (s : Nat) : ∀ (L : List Nat) (W : Nat → Bool), mj_G us (L.erase s) W → mj_G us L W
  | [], _, h => h
  | t :: L, W, h => by
    by_cases e : t = s
    · subst e
      rw [List.erase_cons_head] at h
      exact Or.inl h
    · rw [List.erase_cons_tail (by simpa using e)] at h
      rcases h with h | ⟨k, hk, uk, h⟩
      · exact Or.inl (mj_mono us s L W h)
      · exact Or.inr ⟨k, hk, uk, mj_mono us s L _ h⟩
theorem mj_ins (us : Nat → Nat → Prop) (s k : Nat) : ∀ (L : List Nat) (V : Nat → Bool), s ∈ L → us k s → V k = true → mj_G us (L.erase s) (mj_rm V k) → mj_G us L V
  | [], _, hs, _, _, _ => by cases hs
  | t :: L, V, hs, hu, hV, h => by
    by_cases e : t = s
    · subst e
      rw [List.erase_cons_head] at h
      exact Or.inr ⟨k, hV, hu, h⟩
    · rw [List.erase_cons_tail (by simpa using e)] at h
      have hs' : s ∈ L := by
        rcases List.mem_cons.mp hs with h0 | h0
        · exact absurd h0.symm e
        · exact h0
      rcases h with h | ⟨i, hi, ui, h⟩
      · exact Or.inl (mj_ins us s k L V hs' hu hV h)
      · have hi' := mj_rt.mp hi
        rw [mj_rr] at h
        exact Or.inr ⟨i, hi'.1, ui, mj_ins us s k L _ hs' hu (mj_rt.mpr ⟨hV, Ne.symm hi'.2⟩) h⟩
theorem mj_E (us : Nat → Nat → Prop) (j : Nat) : ∀ (L : List Nat) (W : Nat → Bool), W j = true → mj_G us L W → ∃ s, s ∈ L ∧ us j s ∧ mj_G us (L.erase s) (mj_rm W j)
  | [], W, hj, h => by
    have := h j
    rw [hj] at this
    cases this
  | t :: L, W, hj, h => by
    rcases h with h | ⟨k, hk, uk, h⟩
    · obtain ⟨s, hs, us', h⟩ := mj_E us j L W hj h
      refine ⟨s, List.mem_cons_of_mem _ hs, us', ?_⟩
      by_cases e : t = s
      · subst e
        rw [List.erase_cons_head]
        exact mj_mono us t L _ h
      · rw [List.erase_cons_tail (by simpa using e)]
        exact Or.inl h
    · by_cases ekj : k = j
      · subst ekj
        exact ⟨t, List.mem_cons_self, uk, by rw [List.erase_cons_head]; exact h⟩
      · obtain ⟨s, hs, us', h⟩ := mj_E us j L _ (mj_rt.mpr ⟨hj, Ne.symm ekj⟩) h
        refine ⟨s, List.mem_cons_of_mem _ hs, us', ?_⟩
        rw [mj_rr] at h
        by_cases e : t = s
        · subst e
          rw [List.erase_cons_head]
          exact mj_ins us t k L _ hs uk (mj_rt.mpr ⟨hk, ekj⟩) h
        · rw [List.erase_cons_tail (by simpa using e)]
          exact Or.inr ⟨k, mj_rt.mpr ⟨hk, ekj⟩, uk, h⟩
end
