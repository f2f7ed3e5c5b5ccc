section
/-! sets of jobs as Bool functions; a list of places; mj_G: the set can be placed -/
def mj_rm (W : Nat → Bool) (j : Nat) : Nat → Bool := fun i => W i && !decide (i = j)
def mj_ad (W : Nat → Bool) (j : Nat) : Nat → Bool := fun i => W i || decide (i = j)
def mj_G (us : Nat → Nat → Prop) : List Nat → (Nat → Bool) → Prop
  | [], W => ∀ i, W i = false
  | s :: L, W => mj_G us L W ∨ ∃ j, W j = true ∧ us j s ∧ mj_G us L (mj_rm W j)
theorem mj_rr (W : Nat → Bool) (i j : Nat) : mj_rm (mj_rm W i) j = mj_rm (mj_rm W j) i := by
  funext k; exact Bool.and_right_comm _ _ _
theorem mj_rt {W : Nat → Bool} {i k : Nat} : mj_rm W k i = true ↔ W i = true ∧ i ≠ k := by simp [mj_rm]
theorem mj_at {W : Nat → Bool} {i k : Nat} : mj_ad W k i = true ↔ W i = true ∨ i = k := by simp [mj_ad]
theorem mj_rf {W : Nat → Bool} {i k : Nat} (h : W i = false) : mj_rm W k i = false := by simp [mj_rm, h]
theorem mj_rs {W : Nat → Bool} {k : Nat} : mj_rm W k k = false := by simp [mj_rm]
theorem mj_rn {W : Nat → Bool} {i k : Nat} (h : mj_rm W k i = false) (hn : i ≠ k) : W i = false := by
  simpa [mj_rm, hn] using h
theorem mj_nf {x : Bool} (h : ¬ x = true) : x = false := by simpa using h
theorem mj_sub (us : Nat → Nat → Prop) : ∀ (L : List Nat) (W V : Nat → Bool), (∀ i, V i = true → W i = true) → mj_G us L W → mj_G us L V
  | [], W, V, hs, h => fun i => mj_nf fun hv => by have := h i; rw [hs i hv] at this; cases this
  | s :: L, W, V, hs, h => by
    rcases h with h | ⟨k, hk, hu, h⟩
    · exact Or.inl (mj_sub us L W V hs h)
    · by_cases hv : V k = true
      · exact Or.inr ⟨k, hv, hu, mj_sub us L _ _ (fun i hi => mj_rt.mpr ⟨hs i (mj_rt.mp hi).1, (mj_rt.mp hi).2⟩) h⟩
      · exact Or.inl (mj_sub us L (mj_rm W k) V (fun i hi => mj_rt.mpr ⟨hs i hi, fun (e : i = k) => hv (e ▸ hi)⟩) h)
theorem mj_her (us : Nat → Nat → Prop) (L : List Nat) (W : Nat → Bool) (j : Nat) (h : mj_G us L W) : mj_G us L (mj_rm W j) :=
  mj_sub us L W _ (fun _ hi => (mj_rt.mp hi).1) h
theorem mj_cg {us us' : Nat → Nat → Prop} : ∀ (L : List Nat) (W : Nat → Bool), (∀ i s, W i = true → s ∈ L → us i s → us' i s) → mj_G us L W → mj_G us' L W
  | [], _, _, h => h
  | s :: L, W, hc, h => by
    rcases h with h | ⟨k, hk, hu, h⟩
    · exact Or.inl (mj_cg L W (fun i t hi ht => hc i t hi (List.mem_cons_of_mem _ ht)) h)
    · exact Or.inr ⟨k, hk, hc k s hk List.mem_cons_self hu, mj_cg L _ (fun i t hi ht => hc i t (mj_rt.mp hi).1 (List.mem_cons_of_mem _ ht)) h⟩
theorem mj_swap (us : Nat → Nat → Prop) (i j : Nat) (hij : i ≠ j) : ∀ (L : List Nat) (W : Nat → Bool), W i = true → W j = true → (∀ t, t ∈ L → us j t → us i t) → mj_G us L (mj_rm W i) → mj_G us L (mj_rm W j)
  | [], W, hi, hj, _, h => by
    have := h j
    rw [mj_rt.mpr ⟨hj, Ne.symm hij⟩] at this
    cases this
  | t :: L, W, hi, hj, hu, h => by
    have hu' : ∀ t, t ∈ L → us j t → us i t := fun t ht => hu t (List.mem_cons_of_mem _ ht)
    rcases h with h | ⟨k, hk, uk, h⟩
    · exact Or.inl (mj_swap us i j hij L W hi hj hu' h)
    · obtain ⟨hk, hki⟩ := mj_rt.mp hk
      by_cases e : k = j
      · subst e
        exact Or.inr ⟨i, mj_rt.mpr ⟨hi, hij⟩, hu t List.mem_cons_self uk, by rw [mj_rr]; exact h⟩
      · refine Or.inr ⟨k, mj_rt.mpr ⟨hk, e⟩, uk, ?_⟩
        rw [mj_rr]
        rw [mj_rr] at h
        exact mj_swap us i j hij L _ (mj_rt.mpr ⟨hi, Ne.symm hki⟩) (mj_rt.mpr ⟨hj, Ne.symm e⟩) hu' h
theorem mj_gr (us : Nat → Nat → Prop) {s : Nat} {L : List Nat} {W : Nat → Bool} {j : Nat} (hj : W j = true) (hu : us j s) (hm : ∀ i, W i = true → us i s → ∀ t, t ∈ L → us j t → us i t) : mj_G us (s :: L) W ↔ mj_G us L (mj_rm W j) := by
  constructor
  · intro h
    rcases h with h | ⟨i, hi, ui, h⟩
    · exact mj_her us L W j h
    · by_cases e : i = j
      · subst e; exact h
      · exact mj_swap us i j e L W hi hj (hm i hi ui) h
  · intro h
    exact Or.inr ⟨j, hj, hu, h⟩
theorem mj_no (us : Nat → Nat → Prop) {s : Nat} {L : List Nat} {W : Nat → Bool} (hn : ∀ i, W i = true → ¬ us i s) : mj_G us (s :: L) W ↔ mj_G us L W := by
  constructor
  · intro h
    rcases h with h | ⟨i, hi, ui, _⟩
    · exact h
    · exact absurd ui (hn i hi)
  · exact Or.inl
theorem mj_app (us : Nat → Nat → Prop) (s : Nat) : ∀ (L : List Nat) (W : Nat → Bool), mj_G us (L ++ [s]) W ↔ mj_G us L W ∨ ∃ j, W j = true ∧ us j s ∧ mj_G us L (mj_rm W j)
  | [], W => Iff.rfl
  | t :: L, W => by
    have ih := mj_app us s L
    constructor
    · rintro (h | ⟨i, hi, ui, h⟩)
      · rcases (ih W).mp h with h | ⟨j, hj, uj, h⟩
        · exact .inl (.inl h)
        · exact .inr ⟨j, hj, uj, .inl h⟩
      · rcases (ih _).mp h with h | ⟨j, hj, uj, h⟩
        · exact .inl (.inr ⟨i, hi, ui, h⟩)
        · have hj' := mj_rt.mp hj
          exact .inr ⟨j, hj'.1, uj, .inr ⟨i, mj_rt.mpr ⟨hi, Ne.symm hj'.2⟩, ui, by rw [mj_rr]; exact h⟩⟩
    · rintro ((h | ⟨i, hi, ui, h⟩) | ⟨j, hj, uj, (h | ⟨i, hi, ui, h⟩)⟩)
      · exact .inl ((ih W).mpr (.inl h))
      · exact .inr ⟨i, hi, ui, (ih _).mpr (.inl h)⟩
      · exact .inl ((ih W).mpr (.inr ⟨j, hj, uj, h⟩))
      · have hi' := mj_rt.mp hi
        exact .inr ⟨i, hi'.1, ui, (ih _).mpr (.inr ⟨j, mj_rt.mpr ⟨hj, Ne.symm hi'.2⟩, uj, by rw [mj_rr]; exact h⟩)⟩
theorem mj_e1 {O : Nat → Bool} {e o : Nat} (h : o ≠ e) : mj_rm (mj_ad O e) o = mj_ad (mj_rm O o) e := by
  funext k
  simp only [mj_rm, mj_ad]
  by_cases h1 : k = e <;> by_cases h2 : k = o <;> simp_all
theorem mj_e2 {O : Nat → Bool} {e o y : Nat} (h : o ≠ e) : mj_rm (mj_ad (mj_rm O y) e) o = mj_ad (mj_rm (mj_rm O o) y) e := by
  rw [mj_e1 h, mj_rr]
theorem mj_e3 {O : Nat → Bool} {e : Nat} (h : O e = false) : mj_rm (mj_ad O e) e = O := by
  funext k
  simp only [mj_rm, mj_ad]
  by_cases h1 : k = e <;> simp_all
theorem mj_e4 {O : Nat → Bool} {o : Nat} (h : O o = true) : mj_ad (mj_rm O o) o = O := by
  funext k
  simp only [mj_rm, mj_ad]
  by_cases h1 : k = o <;> simp_all
theorem mj_e5 {O : Nat → Bool} {o y : Nat} (h : O o = true) (hn : o ≠ y) : mj_ad (mj_rm (mj_rm O o) y) o = mj_rm O y := by
  rw [mj_rr]
  exact mj_e4 (mj_rt.mpr ⟨h, hn⟩)
theorem mj_e6 {O : Nat → Bool} {o a e : Nat} (h : O o = true) (hn : o ≠ a) : mj_ad (mj_ad (mj_rm (mj_rm O o) a) e) o = mj_ad (mj_rm O a) e := by
  funext k
  simp only [mj_rm, mj_ad]
  by_cases h1 : k = o <;> by_cases h2 : k = a <;> by_cases h3 : k = e <;> simp_all
theorem mj_e7 {O : Nat → Bool} {o a e y : Nat} (h : O o = true) (h1 : o ≠ a) (h2 : o ≠ y) (h3 : a ≠ e) (h4 : y ≠ e) : mj_ad (mj_rm (mj_ad (mj_rm (mj_rm O o) a) e) y) o = mj_rm (mj_ad (mj_rm O y) e) a := by
  funext k
  simp only [mj_rm, mj_ad]
  by_cases g1 : k = o
  · subst g1; simp [h, h1, h2]
  · by_cases g2 : k = a
    · subst g2; simp [h3, g1]
    · by_cases g3 : k = e
      · subst g3; simp [Ne.symm h4, g2]
      · by_cases g4 : k = y
        · subst g4; simp [g1, g3]
        · simp [g1, g2, g3, g4]
theorem mj_ex (us : Nat → Nat → Prop) : ∀ (L : List Nat) (A O : Nat → Bool) (e : Nat), A e = true → O e = false → mj_G us L A → mj_G us L O → mj_G us L (mj_ad O e) ∨ ∃ y, O y = true ∧ A y = false ∧ mj_G us L (mj_ad (mj_rm O y) e)
  | [], A, O, e, hA, _, gA, _ => by
    have := gA e
    rw [hA] at this
    cases this
  | t :: L, A, O, e, hA, hO, gA, gO => by
    have ih := mj_ex us L
    have ne : ∀ o, O o = true → o ≠ e := fun o ho h => by rw [h, hO] at ho; cases ho
    rcases gA with gA | ⟨a, ha, ua, gA⟩
    · rcases gO with gO | ⟨o, ho, uo, gO⟩
      · rcases ih A O e hA hO gA gO with h | ⟨y, hy, hy', h⟩
        · exact .inl (.inl h)
        · exact .inr ⟨y, hy, hy', .inl h⟩
      · rcases ih A (mj_rm O o) e hA (mj_rf hO) gA gO with h | ⟨y, hy, hy', h⟩
        · exact .inl (.inr ⟨o, mj_at.mpr (.inl ho), uo, by rw [mj_e1 (ne o ho)]; exact h⟩)
        · exact .inr ⟨y, (mj_rt.mp hy).1, hy', .inr ⟨o, mj_at.mpr (.inl (mj_rt.mpr ⟨ho, Ne.symm (mj_rt.mp hy).2⟩)), uo, by rw [mj_e2 (ne o ho)]; exact h⟩⟩
    · by_cases hae : a = e
      · subst hae
        rcases gO with gO | ⟨o, ho, uo, gO⟩
        · exact .inl (.inr ⟨a, mj_at.mpr (.inr rfl), ua, by rw [mj_e3 hO]; exact gO⟩)
        · by_cases hoA : A o = true
          · rcases ih (mj_rm A a) (mj_rm O o) o (mj_rt.mpr ⟨hoA, ne o ho⟩) mj_rs gA gO with h | ⟨y, hy, hy', h⟩
            · rw [mj_e4 ho] at h
              exact .inl (.inr ⟨a, mj_at.mpr (.inr rfl), ua, by rw [mj_e3 hO]; exact h⟩)
            · have hy1 := mj_rt.mp hy
              rw [mj_e5 ho (Ne.symm hy1.2)] at h
              exact .inr ⟨y, hy1.1, mj_rn hy' (ne y hy1.1), .inr ⟨a, mj_at.mpr (.inr rfl), ua, by rw [mj_e3 (mj_rf hO)]; exact h⟩⟩
          · exact .inr ⟨o, ho, mj_nf hoA, .inr ⟨a, mj_at.mpr (.inr rfl), ua, by rw [mj_e3 (mj_rf hO)]; exact gO⟩⟩
      · have hA' : mj_rm A a e = true := mj_rt.mpr ⟨hA, Ne.symm hae⟩
        rcases gO with gO | ⟨o, ho, uo, gO⟩
        · rcases ih (mj_rm A a) O e hA' hO gA gO with h | ⟨y, hy, hy', h⟩
          · exact .inl (.inl h)
          · by_cases hya : y = a
            · subst hya
              exact .inl (.inr ⟨y, mj_at.mpr (.inl hy), ua, by rw [mj_e1 hae]; exact h⟩)
            · exact .inr ⟨y, hy, mj_rn hy' hya, .inl h⟩
        · by_cases hao : a = o
          · subst hao
            rcases ih (mj_rm A a) (mj_rm O a) e hA' (mj_rf hO) gA gO with h | ⟨y, hy, hy', h⟩
            · exact .inl (.inr ⟨a, mj_at.mpr (.inl ho), ua, by rw [mj_e1 hae]; exact h⟩)
            · have hy1 := mj_rt.mp hy
              exact .inr ⟨y, hy1.1, mj_rn hy' hy1.2, .inr ⟨a, mj_at.mpr (.inl (mj_rt.mpr ⟨ho, Ne.symm hy1.2⟩)), ua, by rw [mj_e2 hae]; exact h⟩⟩
          · rcases ih (mj_rm A a) (mj_rm O o) e hA' (mj_rf hO) gA gO with h | ⟨y, hy, hy', h⟩
            · exact .inl (.inr ⟨o, mj_at.mpr (.inl ho), uo, by rw [mj_e1 (ne o ho)]; exact h⟩)
            · have hy1 := mj_rt.mp hy
              by_cases hya : y = a
              · subst hya
                by_cases hoA : A o = true
                · have hO' : mj_ad (mj_rm (mj_rm O o) y) e o = false := by
                    have := ne o ho
                    simp [mj_ad, mj_rm, this]
                  rcases ih (mj_rm A y) _ o (mj_rt.mpr ⟨hoA, Ne.symm hao⟩) hO' gA h with h2 | ⟨z, hz, hz', h2⟩
                  · rw [mj_e6 ho (Ne.symm hao)] at h2
                    exact .inl (.inr ⟨y, mj_at.mpr (.inl hy1.1), ua, by rw [mj_e1 hae]; exact h2⟩)
                  · have hzy : z ≠ y := by
                      intro hzy
                      subst hzy
                      simp [mj_ad, mj_rm, hae] at hz
                    have hzA := mj_rn hz' hzy
                    have hze : z ≠ e := by
                      intro h0
                      rw [h0, hA] at hzA
                      cases hzA
                    have hz1 : O z = true ∧ z ≠ o := by
                      rcases mj_at.mp hz with h0 | h0
                      · have := mj_rt.mp (mj_rt.mp h0).1
                        exact this
                      · exact absurd h0 hze
                    rw [mj_e7 ho (Ne.symm hao) (Ne.symm hz1.2) hae hze] at h2
                    exact .inr ⟨z, hz1.1, hzA, .inr ⟨y, mj_at.mpr (.inl (mj_rt.mpr ⟨hy1.1, Ne.symm hzy⟩)), ua, h2⟩⟩
                · exact .inr ⟨o, ho, mj_nf hoA, .inr ⟨y, mj_at.mpr (.inl hy), ua, by rw [mj_e1 hae]; exact h⟩⟩
              · exact .inr ⟨y, hy1.1, mj_rn hy' hya, .inr ⟨o, mj_at.mpr (.inl (mj_rt.mpr ⟨ho, Ne.symm hy1.2⟩)), uo, by rw [mj_e2 (ne o ho)]; exact h⟩⟩
theorem mj_mono (us : Nat → Nat → Prop) (s : Nat) : ∀ (L : List Nat) (W : Nat → Bool), mj_G us (L.erase s) W → mj_G us L W
  | [], _, h => h
  | t :: L, W, h => by
    by_cases e : t = s
    · subst e
      rw [List.erase_cons_head] at h
      exact Or.inl h
    · rw [List.erase_cons_tail (by simpa using e)] at h
      rcases h with h | ⟨k, hk, uk, h⟩
      · exact Or.inl (mj_mono us s L W h)
      · exact Or.inr ⟨k, hk, uk, mj_mono us s L _ h⟩
theorem mj_ins (us : Nat → Nat → Prop) (s k : Nat) : ∀ (L : List Nat) (V : Nat → Bool), s ∈ L → us k s → V k = true → mj_G us (L.erase s) (mj_rm V k) → mj_G us L V
  | [], _, hs, _, _, _ => by cases hs
  | t :: L, V, hs, hu, hV, h => by
    by_cases e : t = s
    · subst e
      rw [List.erase_cons_head] at h
      exact Or.inr ⟨k, hV, hu, h⟩
    · rw [List.erase_cons_tail (by simpa using e)] at h
      have hs' : s ∈ L := by
        rcases List.mem_cons.mp hs with h0 | h0
        · exact absurd h0.symm e
        · exact h0
      rcases h with h | ⟨i, hi, ui, h⟩
      · exact Or.inl (mj_ins us s k L V hs' hu hV h)
      · have hi' := mj_rt.mp hi
        rw [mj_rr] at h
        exact Or.inr ⟨i, hi'.1, ui, mj_ins us s k L _ hs' hu (mj_rt.mpr ⟨hV, Ne.symm hi'.2⟩) h⟩
theorem mj_E (us : Nat → Nat → Prop) (j : Nat) : ∀ (L : List Nat) (W : Nat → Bool), W j = true → mj_G us L W → ∃ s, s ∈ L ∧ us j s ∧ mj_G us (L.erase s) (mj_rm W j)
  | [], W, hj, h => by
    have := h j
    rw [hj] at this
    cases this
  | t :: L, W, hj, h => by
    rcases h with h | ⟨k, hk, uk, h⟩
    · obtain ⟨s, hs, us', h⟩ := mj_E us j L W hj h
      refine ⟨s, List.mem_cons_of_mem _ hs, us', ?_⟩
      by_cases e : t = s
      · subst e
        rw [List.erase_cons_head]
        exact mj_mono us t L _ h
      · rw [List.erase_cons_tail (by simpa using e)]
        exact Or.inl h
    · by_cases ekj : k = j
      · subst ekj
        exact ⟨t, List.mem_cons_self, uk, by rw [List.erase_cons_head]; exact h⟩
      · obtain ⟨s, hs, us', h⟩ := mj_E us j L _ (mj_rt.mpr ⟨hj, Ne.symm ekj⟩) h
        refine ⟨s, List.mem_cons_of_mem _ hs, us', ?_⟩
        rw [mj_rr] at h
        by_cases e : t = s
        · subst e
          rw [List.erase_cons_head]
          exact mj_ins us t k L _ hs uk (mj_rt.mpr ⟨hk, ekj⟩) h
        · rw [List.erase_cons_tail (by simpa using e)]
          exact Or.inr ⟨k, mj_rt.mpr ⟨hk, ekj⟩, uk, h⟩
end
section
/-! the places as a list, sums, masks, the best mask -/
def mj_nu (ρ : Nat → Nat) (k x : Nat) : Nat → Nat := fun i => if i = k then x else ρ i
theorem mj_nus {ρ : Nat → Nat} {k x : Nat} : mj_nu ρ k x k = x := by simp [mj_nu]
theorem mj_nun {ρ : Nat → Nat} {k x i : Nat} (h : i ≠ k) : mj_nu ρ k x i = ρ i := by simp [mj_nu, h]
def mj_pl (ρ : Nat → Nat) : Nat → Nat → List Nat
  | 0, _ => []
  | d + 1, s => List.replicate (ρ s) s ++ mj_pl ρ d (s + 1)
theorem mj_pl_mem (ρ : Nat → Nat) : ∀ d s t : Nat, t ∈ mj_pl ρ d s ↔ (s ≤ t ∧ t < s + d ∧ 0 < ρ t)
  | 0, s, t => by
    constructor
    · intro h; cases h
    · intro h; omega
  | d + 1, s, t => by
    have ih := mj_pl_mem ρ d (s + 1) t
    rw [mj_pl, List.mem_append, List.mem_replicate, ih]
    constructor
    · rintro (⟨h1, h2⟩ | h)
      · subst h2; omega
      · omega
    · intro h
      by_cases e : t = s
      · subst e; exact .inl ⟨by omega, rfl⟩
      · exact .inr (by omega)
theorem mj_pl_cg (ρ ρ' : Nat → Nat) : ∀ d s : Nat, (∀ x, s ≤ x → x < s + d → ρ x = ρ' x) → mj_pl ρ d s = mj_pl ρ' d s
  | 0, _, _ => rfl
  | d + 1, s, h => by
    rw [mj_pl, mj_pl, h s (Nat.le_refl _) (by omega), mj_pl_cg ρ ρ' d (s + 1) (fun x h1 h2 => h x (by omega) (by omega))]
theorem mj_pl_er (ρ : Nat → Nat) (s : Nat) (h0 : 0 < ρ s) : ∀ d t : Nat, t ≤ s → s < t + d → mj_pl (mj_nu ρ s (ρ s - 1)) d t = (mj_pl ρ d t).erase s
  | 0, t, h1, h2 => by omega
  | d + 1, t, h1, h2 => by
    rw [mj_pl, mj_pl]
    by_cases e : t = s
    · subst e
      rw [mj_nus, mj_pl_cg (mj_nu ρ t (ρ t - 1)) ρ d (t + 1) (fun x g1 _ => mj_nun (by omega))]
      obtain ⟨n, hn⟩ : ∃ n, ρ t = n + 1 := ⟨ρ t - 1, by omega⟩
      rw [hn, List.replicate_succ, List.cons_append, List.erase_cons_head, Nat.add_sub_cancel]
    · rw [mj_nun e, mj_pl_er ρ s h0 d (t + 1) (by omega) (by omega), List.erase_append_right]
      intro hm
      exact e (List.mem_replicate.mp hm).2.symm
def mj_sm (κ : Nat → Nat) (W : Nat → Bool) : Nat → Nat
  | 0 => 0
  | n + 1 => mj_sm κ W n + if W n = true then κ n else 0
theorem mj_sm_cg (κ : Nat → Nat) (W V : Nat → Bool) : ∀ n : Nat, (∀ i, i < n → W i = V i) → mj_sm κ W n = mj_sm κ V n
  | 0, _ => rfl
  | n + 1, h => by rw [mj_sm, mj_sm, mj_sm_cg κ W V n (fun i hi => h i (by omega)), h n (by omega)]
theorem mj_sm_ad (κ : Nat → Nat) (W : Nat → Bool) (e : Nat) (he : W e = false) : ∀ n : Nat, e < n → mj_sm κ (mj_ad W e) n = mj_sm κ W n + κ e
  | 0, h => by omega
  | n + 1, h => by
    rw [mj_sm, mj_sm]
    by_cases g : e = n
    · subst g
      rw [mj_sm_cg κ (mj_ad W e) W e (fun i hi => by simp [mj_ad, Nat.ne_of_lt hi]), he]
      simp [mj_ad]
    · rw [mj_sm_ad κ W e he n (by omega)]
      have : mj_ad W e n = W n := by simp [mj_ad, Ne.symm g]
      rw [this]; omega
theorem mj_sm_rm (κ : Nat → Nat) (W : Nat → Bool) (y n : Nat) (hy : W y = true) (h : y < n) : mj_sm κ (mj_rm W y) n + κ y = mj_sm κ W n := by
  have := mj_sm_ad κ (mj_rm W y) y mj_rs n h
  rw [mj_e4 hy] at this
  exact this.symm
theorem mj_sm_ge (κ : Nat → Nat) (W : Nat → Bool) (y n : Nat) (hy : W y = true) (h : y < n) : κ y ≤ mj_sm κ W n := by
  have := mj_sm_rm κ W y n hy h
  omega
theorem mj_sm_1 (W : Nat → Bool) : ∀ n : Nat, mj_sm (fun _ => 1) W n ≤ n
  | 0 => Nat.le_refl _
  | n + 1 => by
    have := mj_sm_1 W n
    rw [mj_sm]
    split <;> omega
def mj_k (ω : Nat → Nat) : Nat → Nat := fun j => ω j * 128 + 2 ^ (6 - j)
theorem mj_p64 : ∀ j : Nat, j < 7 → 1 ≤ 2 ^ (6 - j) ∧ 2 ^ (6 - j) ≤ 64 := by decide
theorem mj_p2 : ∀ j : Nat, j < 7 → ∀ i : Nat, i < 7 → j < i → 2 ^ (6 - i) < 2 ^ (6 - j) := by decide
theorem mj_k1 (ω : Nat → Nat) {j : Nat} (h : j < 7) : 1 ≤ mj_k ω j := by
  have := mj_p64 j h
  unfold mj_k; omega
theorem mj_k_lt (ω : Nat → Nat) {i j : Nat} (hi : i < 7) (hj : j < 7) (h : ω i < ω j ∨ (ω i = ω j ∧ j < i)) : mj_k ω i < mj_k ω j := by
  have a := mj_p64 i hi
  have b := mj_p64 j hj
  unfold mj_k
  rcases h with h | ⟨h1, h2⟩
  · omega
  · have := mj_p2 j hj i hi h2
    omega
def mj_ms (m : Nat) : Nat → Bool := fun i => m.testBit i
def mj_cl (m j : Nat) : Nat := m &&& (127 ^^^ 2 ^ j)
def mj_sb (a b : Nat) : Prop := ∀ i, a.testBit i = true → b.testBit i = true
theorem mj_hi {m i : Nat} (h : m < 128) (hi : 7 ≤ i) : m.testBit i = false :=
  Nat.testBit_lt_two_pow (Nat.lt_of_lt_of_le h (Nat.pow_le_pow_right (by omega) hi : 2 ^ 7 ≤ 2 ^ i))
theorem mj_lt7 {m i : Nat} (h : m < 128) (hi : m.testBit i = true) : i < 7 := by
  rcases Nat.lt_or_ge i 7 with g | g
  · exact g
  · rw [mj_hi h g] at hi; cases hi
theorem mj_ms_or (m j : Nat) : mj_ms (m ||| 2 ^ j) = mj_ad (mj_ms m) j := by
  funext i
  simp only [mj_ms, mj_ad, Nat.testBit_or, Nat.testBit_two_pow]
  by_cases e : i = j
  · simp [e]
  · simp [e, Ne.symm e]
theorem mj_ms_cl {m : Nat} (h : m < 128) (j : Nat) : mj_ms (mj_cl m j) = mj_rm (mj_ms m) j := by
  funext i
  have e7 : (127 : Nat) = 2 ^ 7 - 1 := by decide
  simp only [mj_ms, mj_rm, mj_cl, Nat.testBit_and, Nat.testBit_xor, Nat.testBit_two_pow]
  rw [e7, Nat.testBit_two_pow_sub_one]
  by_cases g : i < 7
  · by_cases e : i = j
    · simp [e]
      intro _
      omega
    · simp [e, Ne.symm e, g]
  · rw [mj_hi h (by omega)]
    simp
theorem mj_cl_lt {m : Nat} (h : m < 128) (j : Nat) : mj_cl m j < 128 := Nat.lt_of_le_of_lt Nat.and_le_left h
theorem mj_or_lt {m j : Nat} (h : m < 128) (hj : j < 7) : m ||| 2 ^ j < 128 :=
  Nat.or_lt_two_pow (n := 7) h (Nat.pow_lt_pow_right (by omega) hj)
theorem mj_ms_inj {a b : Nat} (h : mj_ms a = mj_ms b) : a = b := Nat.eq_of_testBit_eq fun i => congrFun h i
theorem mj_tb_or (m j i : Nat) : (m ||| 2 ^ j).testBit i = true ↔ m.testBit i = true ∨ i = j := by
  have := congrFun (mj_ms_or m j) i
  unfold mj_ms at this
  rw [this]
  exact mj_at
theorem mj_tb_cl {m : Nat} (h : m < 128) (j i : Nat) : (mj_cl m j).testBit i = true ↔ m.testBit i = true ∧ i ≠ j := by
  have := congrFun (mj_ms_cl h j) i
  unfold mj_ms at this
  rw [this]
  exact mj_rt
theorem mj_G0 (us : Nat → Nat → Prop) (W : Nat → Bool) (h : ∀ i, W i = false) : ∀ L : List Nat, mj_G us L W
  | [] => h
  | _ :: L => Or.inl (mj_G0 us W h L)
def mj_opt (us : Nat → Nat → Prop) (L : List Nat) (κ : Nat → Nat) (p o : Nat) : Prop :=
  o < 128 ∧ mj_sb o p ∧ mj_G us L (mj_ms o) ∧ ∀ w, w < 128 → mj_sb w p → mj_G us L (mj_ms w) → mj_sm κ (mj_ms w) 7 ≤ mj_sm κ (mj_ms o) 7
theorem mj_opt_n (us : Nat → Nat → Prop) (L : List Nat) (κ : Nat → Nat) (p : Nat) : ∀ n : Nat, ∃ o, o < n + 1 ∧ mj_sb o p ∧ mj_G us L (mj_ms o) ∧ ∀ w, w < n + 1 → mj_sb w p → mj_G us L (mj_ms w) → mj_sm κ (mj_ms w) 7 ≤ mj_sm κ (mj_ms o) 7
  | 0 => ⟨0, by omega, fun i h => by simp at h, mj_G0 us _ (fun i => by simp [mj_ms]) L, fun w hw _ _ => by
      have : w = 0 := by omega
      rw [this]; exact Nat.le_refl _⟩
  | n + 1 => by
    obtain ⟨o, h1, h2, h3, h4⟩ := mj_opt_n us L κ p n
    by_cases g : mj_sb (n + 1) p ∧ mj_G us L (mj_ms (n + 1)) ∧ mj_sm κ (mj_ms o) 7 ≤ mj_sm κ (mj_ms (n + 1)) 7
    · refine ⟨n + 1, by omega, g.1, g.2.1, fun w hw a b => ?_⟩
      by_cases e : w = n + 1
      · rw [e]; exact Nat.le_refl _
      · exact Nat.le_trans (h4 w (by omega) a b) g.2.2
    · refine ⟨o, by omega, h2, h3, fun w hw a b => ?_⟩
      by_cases e : w = n + 1
      · subst e
        rcases Nat.le_total (mj_sm κ (mj_ms (n + 1)) 7) (mj_sm κ (mj_ms o) 7) with c | c
        · exact c
        · exact absurd ⟨a, b, c⟩ g
      · exact h4 w (by omega) a b
theorem mj_opt_ex (us : Nat → Nat → Prop) (L : List Nat) (κ : Nat → Nat) (p : Nat) : ∃ o, mj_opt us L κ p o := mj_opt_n us L κ p 127
/-- the greedy pass stands so: c kept, w waiting, o the best -/
def mj_gi (p o c w : Nat) : Prop :=
  c < 128 ∧ w < 128 ∧ mj_sb c p ∧ mj_sb w p ∧ (∀ i, c.testBit i = true → w.testBit i = false) ∧ ∀ i, p.testBit i = true → w.testBit i = false → c.testBit i = o.testBit i
theorem mj_gi_co {p o c w : Nat} (h : mj_gi p o c w) : mj_sb c o := fun i hi => by
  rw [← h.2.2.2.2.2 i (h.2.2.1 i hi) (h.2.2.2.2.1 i hi)]
  exact hi
theorem mj_take {us : Nat → Nat → Prop} {L : List Nat} {κ : Nat → Nat} {p o c w e : Nat} (hk : ∀ i, i < 7 → 1 ≤ κ i) (ho : mj_opt us L κ p o) (h : mj_gi p o c w) (he : w.testBit e = true) (hm : ∀ i, w.testBit i = true → i ≠ e → κ i < κ e) (hg : mj_G us L (mj_ms (c ||| 2 ^ e))) : o.testBit e = true := by
  obtain ⟨o1, o2, o3, o4⟩ := ho
  obtain ⟨g1, g2, g3, g4, g5, g6⟩ := h
  have e7 : e < 7 := mj_lt7 g2 he
  have pe : p.testBit e = true := g4 e he
  refine Classical.byContradiction fun hn => ?_
  have hn : o.testBit e = false := mj_nf hn
  have hA : mj_ms (c ||| 2 ^ e) e = true := (mj_tb_or c e e).mpr (.inr rfl)
  rcases mj_ex us L _ (mj_ms o) e hA hn hg o3 with x | ⟨y, y1, y2, x⟩
  · have := o4 (o ||| 2 ^ e) (mj_or_lt o1 e7) (fun i hi => by
      rcases (mj_tb_or o e i).mp hi with a | a
      · exact o2 i a
      · rw [a]; exact pe) (by rw [mj_ms_or]; exact x)
    rw [mj_ms_or, mj_sm_ad κ (mj_ms o) e hn 7 e7] at this
    have := hk e e7
    omega
  · have y7 : y < 7 := mj_lt7 o1 y1
    have ye : y ≠ e := fun a => by
      rw [a] at y1
      have y1 : o.testBit e = true := y1
      rw [hn] at y1; cases y1
    have yc : c.testBit y = false := mj_nf fun a => by
      have b : (c ||| 2 ^ e).testBit y = true := (mj_tb_or c e y).mpr (.inl a)
      have y2 : (c ||| 2 ^ e).testBit y = false := y2
      rw [b] at y2; cases y2
    have yw : w.testBit y = true := by
      cases a : w.testBit y with
      | true => rfl
      | false =>
        have := g6 y (o2 y y1) a
        rw [yc] at this
        have y1 : o.testBit y = true := y1
        rw [y1] at this; cases this
    have := o4 (mj_cl o y ||| 2 ^ e) (mj_or_lt (mj_cl_lt o1 y) e7) (fun i hi => by
      rcases (mj_tb_or _ e i).mp hi with a | a
      · exact o2 i ((mj_tb_cl o1 y i).mp a).1
      · rw [a]; exact pe) (by rw [mj_ms_or, mj_ms_cl o1]; exact x)
    rw [mj_ms_or, mj_ms_cl o1, mj_sm_ad κ (mj_rm (mj_ms o) y) e (mj_rf hn) 7 e7] at this
    have b := mj_sm_rm κ (mj_ms o) y 7 y1 y7
    have := hm y yw ye
    omega
theorem mj_leave {us : Nat → Nat → Prop} {L : List Nat} {κ : Nat → Nat} {p o c w e : Nat} (ho : mj_opt us L κ p o) (h : mj_gi p o c w) (hg : ¬ mj_G us L (mj_ms (c ||| 2 ^ e))) : o.testBit e = false :=
  mj_nf fun he => hg (mj_sub us L (mj_ms o) _ (fun i hi => by
    rcases (mj_tb_or c e i).mp hi with a | a
    · exact mj_gi_co h i a
    · rw [a]; exact he) ho.2.2.1)
theorem mj_gi_0 {p o : Nat} (hp : p < 128) : mj_gi p o 0 p :=
  ⟨by omega, hp, fun i h => by simp at h, fun _ h => h, fun i h => by simp at h, fun i a b => by rw [a] at b; cases b⟩
theorem mj_gi_k {p o c w e : Nat} (h : mj_gi p o c w) (he : w.testBit e = true) (ho : o.testBit e = true) : mj_gi p o (c ||| 2 ^ e) (mj_cl w e) := by
  obtain ⟨g1, g2, g3, g4, g5, g6⟩ := h
  have e7 : e < 7 := mj_lt7 g2 he
  refine ⟨mj_or_lt g1 e7, mj_cl_lt g2 e, fun i hi => ?_, fun i hi => g4 i ((mj_tb_cl g2 e i).mp hi).1, fun i hi => mj_nf fun hw => ?_, fun i hp hw => ?_⟩
  · rcases (mj_tb_or c e i).mp hi with a | a
    · exact g3 i a
    · rw [a]; exact g4 e he
  · have hw := (mj_tb_cl g2 e i).mp hw
    rcases (mj_tb_or c e i).mp hi with a | a
    · have := g5 i a
      rw [hw.1] at this; cases this
    · exact hw.2 a
  · by_cases a : i = e
    · subst a
      rw [ho]; exact (mj_tb_or c i i).mpr (.inr rfl)
    · have wf : w.testBit i = false := mj_nf fun b => by
        have := (mj_tb_cl g2 e i).mpr ⟨b, a⟩
        rw [this] at hw; cases hw
      have := g6 i hp wf
      rw [← this]
      have b := congrFun (mj_ms_or c e) i
      simp only [mj_ms, mj_ad] at b
      rw [b]; simp [a]
theorem mj_gi_l {p o c w e : Nat} (h : mj_gi p o c w) (he : w.testBit e = true) (ho : o.testBit e = false) : mj_gi p o c (mj_cl w e) := by
  obtain ⟨g1, g2, g3, g4, g5, g6⟩ := h
  refine ⟨g1, mj_cl_lt g2 e, g3, fun i hi => g4 i ((mj_tb_cl g2 e i).mp hi).1, fun i hi => mj_nf fun hw => ?_, fun i hp hw => ?_⟩
  · have hw := (mj_tb_cl g2 e i).mp hw
    have := g5 i hi
    rw [hw.1] at this; cases this
  · by_cases a : i = e
    · subst a
      rw [ho]
      exact mj_nf fun b => by
        have := g5 i b
        rw [he] at this; cases this
    · have wf : w.testBit i = false := mj_nf fun b => by
        have := (mj_tb_cl g2 e i).mpr ⟨b, a⟩
        rw [this] at hw; cases hw
      exact g6 i hp wf
theorem mj_gi_x {p o c w : Nat} (h : mj_gi p o c w) (op : mj_sb o p) (hw : ∀ i, w.testBit i = false) : c = o :=
  Nat.eq_of_testBit_eq fun i => by
    cases a : p.testBit i with
    | true => exact h.2.2.2.2.2 i a (hw i)
    | false =>
      have b : c.testBit i = false := mj_nf fun b => by
        have := h.2.2.1 i b
        rw [a] at this; cases this
      have d : o.testBit i = false := mj_nf fun b => by
        have := op i b
        rw [a] at this; cases this
      rw [b, d]
def mj_ct (w : Nat) : Nat := mj_sm (fun _ => 1) (mj_ms w) 7
theorem mj_ct_cl {w e : Nat} (h : w < 128) (he : w.testBit e = true) : mj_ct (mj_cl w e) + 1 = mj_ct w := by
  unfold mj_ct
  rw [mj_ms_cl h]
  exact mj_sm_rm (fun _ => 1) (mj_ms w) e 7 he (mj_lt7 h he)
theorem mj_ct_0 {w : Nat} (h : w < 128) (h0 : mj_ct w = 0) : ∀ i, w.testBit i = false := fun i => mj_nf fun hi => by
  have := mj_sm_ge (fun _ => 1) (mj_ms w) i 7 hi (mj_lt7 h hi)
  unfold mj_ct at h0
  omega
def mj_rv (a : Nat) : Nat → Nat
  | 0 => 0
  | d + 1 => (if a.testBit (6 - d) = true then 2 ^ d else 0) + mj_rv a d
theorem mj_rv_lt (a : Nat) : ∀ d : Nat, mj_rv a d < 2 ^ d
  | 0 => Nat.one_pos
  | d + 1 => by
    have := mj_rv_lt a d
    rw [mj_rv, Nat.pow_succ]
    split <;> omega
theorem mj_rv_inv : ∀ a : Nat, a < 128 → mj_rv (mj_rv a 7) 7 = a := by decide +kernel
theorem mj_sm_k (ω : Nat → Nat) (W : Nat → Bool) : ∀ n : Nat, mj_sm (mj_k ω) W n = 128 * mj_sm ω W n + mj_sm (fun j => 2 ^ (6 - j)) W n
  | 0 => rfl
  | n + 1 => by
    rw [mj_sm, mj_sm, mj_sm, mj_sm_k ω W n]
    unfold mj_k
    split <;> omega
theorem mj_rv_sm (a : Nat) : mj_rv a 7 = mj_sm (fun j => 2 ^ (6 - j)) (mj_ms a) 7 := by
  have h1 : mj_rv a 7 = ((if a.testBit 0 = true then 64 else 0) + ((if a.testBit 1 = true then 32 else 0) + ((if a.testBit 2 = true then 16 else 0) + ((if a.testBit 3 = true then 8 else 0) + ((if a.testBit 4 = true then 4 else 0) + ((if a.testBit 5 = true then 2 else 0) + ((if a.testBit 6 = true then 1 else 0) + 0))))))) := rfl
  have h2 : mj_sm (fun j => 2 ^ (6 - j)) (mj_ms a) 7 = (((((((0 + (if a.testBit 0 = true then 64 else 0)) + (if a.testBit 1 = true then 32 else 0)) + (if a.testBit 2 = true then 16 else 0)) + (if a.testBit 3 = true then 8 else 0)) + (if a.testBit 4 = true then 4 else 0)) + (if a.testBit 5 = true then 2 else 0)) + (if a.testBit 6 = true then 1 else 0)) := rfl
  rw [h1, h2]
  omega
theorem mj_key (ω : Nat → Nat) (a : Nat) : mj_sm (mj_k ω) (mj_ms a) 7 = 128 * mj_sm ω (mj_ms a) 7 + mj_rv a 7 := by
  rw [mj_sm_k, mj_rv_sm]
theorem mj_key_inj (ω : Nat → Nat) {a b : Nat} (ha : a < 128) (hb : b < 128) (h : mj_sm (mj_k ω) (mj_ms a) 7 = mj_sm (mj_k ω) (mj_ms b) 7) : a = b := by
  rw [mj_key, mj_key] at h
  have h1 := mj_rv_lt a 7
  have h2 := mj_rv_lt b 7
  have : mj_rv a 7 = mj_rv b 7 := by omega
  rw [← mj_rv_inv a ha, ← mj_rv_inv b hb, this]
theorem mj_opt_u {us : Nat → Nat → Prop} {L : List Nat} {ω : Nat → Nat} {p a b : Nat} (ha : mj_opt us L (mj_k ω) p a) (hb : mj_opt us L (mj_k ω) p b) : a = b :=
  mj_key_inj ω ha.1 hb.1 (Nat.le_antisymm (hb.2.2.2 a ha.1 ha.2.1 ha.2.2.1) (ha.2.2.2 b hb.1 hb.2.1 hb.2.2.1))
end
section
/-! numbers and bits (the pk_ rows are the kit's rows to paste) -/
theorem pk_us {f : Nat → Int32} {k : Nat} {x : Int32} : upd f k x k = x := if_pos rfl
theorem pk_un {f : Nat → Int32} {k j : Nat} {x : Int32} (h : j ≠ k) : upd f k x j = f j := if_neg h
theorem pk_m1 (n : Nat) : nI (n + 1) + (-1) = nI n := by
  rw [← nI_1, Int32.add_assoc, show (1 : Int32) + (-1) = 0 from rfl, Int32.add_zero]
theorem pk_ix (x : Int32) {n : Nat} (hn : n < 2 ^ 31) : x < 0 ∨ nI n ≤ x ∨ ∃ j : Nat, j < n ∧ x = nI j := by
  by_cases h : x < 0
  · exact Or.inl h
  · obtain ⟨j, hj, rfl⟩ := nI_of h
    by_cases h2 : j < n
    · exact Or.inr (Or.inr ⟨j, h2, rfl⟩)
    · exact Or.inr (Or.inl (nI_le (by omega) hj))
theorem pk_le {x y : Int32} {A B : Prop} (a b : Nat) (f : a ≤ b → A) (g : b < a → B) (hx : x = nI a := by rfl) (hy : y = nI b := by rfl) (ha : a < 2 ^ 31 := by omega) (hb : b < 2 ^ 31 := by omega) : (x ≤ y → A) ∧ (¬ x ≤ y → B) := by
  subst hx hy
  rw [nI_leI ha hb]
  exact ⟨f, fun z => g (by omega)⟩
theorem pk_lt {x y : Int32} {A B : Prop} (a b : Nat) (f : a < b → A) (g : b ≤ a → B) (hx : x = nI a := by rfl) (hy : y = nI b := by rfl) (ha : a < 2 ^ 31 := by omega) (hb : b < 2 ^ 31 := by omega) : (x < y → A) ∧ (¬ x < y → B) := by
  subst hx hy
  rw [nI_ltI ha hb]
  exact ⟨f, fun z => g (by omega)⟩
theorem pk_eq {x y : Int32} {A B : Prop} (a b : Nat) (f : a = b → A) (g : a ≠ b → B) (hx : x = nI a := by rfl) (hy : y = nI b := by rfl) (ha : a < 2 ^ 31 := by omega) (hb : b < 2 ^ 31 := by omega) : (x = y → A) ∧ (¬ x = y → B) := by
  subst hx hy
  rw [nI_eq ha hb]
  exact ⟨f, g⟩
theorem pk_in {x : Int32} (n N : Nat) (h : n < N) (hx : x = nI n := by rfl) (hN : N < 2 ^ 31 := by omega) : vp_in x N := by
  subst hx
  exact vp_in_nI h hN
theorem pk_cl {x : Int32} (n : Nat) (hx : x = nI n := by rfl) (h : n < 2 ^ 31 := by omega) : x.toNatClampNeg = n := by
  subst hx
  exact nI_clamp h
theorem mt_at {A : Nat → Int32} {α : Nat → Nat} {n i : Nat} (h : ∀ i, i < n → A i = nI (α i)) (hi : i < n) (hn : n < 2 ^ 31 := by omega) : A (nI i).toNatClampNeg = nI (α i) := by
  rw [nI_clamp (by omega)]
  exact h i hi
theorem mt_bit : ∀ m : Nat, m < 128 → ∀ j : Nat, j < 7 → ((nI m &&& ((1 : Int32) <<< (nI j &&& 31)) = 0) ↔ m.testBit j = false) := by decide +kernel
theorem mt_shr : ∀ m : Nat, m < 128 → ∀ j : Nat, j < 7 → ((nI m >>> (nI j &&& 31)) &&& 1) = nI (if m.testBit j = true then 1 else 0) := by decide +kernel
theorem mt_cl : ∀ m : Nat, m < 128 → ∀ j : Nat, j < 7 → nI m &&& (((1 : Int32) <<< (nI j &&& 31)) ^^^ (-1)) = nI (mj_cl m j) := by decide +kernel
theorem mt_or : ∀ m : Nat, m < 128 → ∀ j : Nat, j < 7 → nI m ||| ((1 : Int32) <<< (nI j &&& 31)) = nI (m ||| 2 ^ j) := by decide +kernel
theorem mt_n0 : ∀ m : Nat, m < 128 → nI m &&& ((0 : Int32) ^^^ (-1)) = nI m := by decide +kernel
theorem mt_o0 : ∀ m : Nat, m < 128 → nI m ||| (0 : Int32) = nI m := by decide +kernel
theorem mt_127 : ∀ m : Nat, m < 128 → nI m &&& 127 = nI m := by decide +kernel
theorem mt_bi (m : Nat) {i : Nat} (hi : i < 32) : (nI m).toBitVec.getLsbD i = m.testBit i := by
  show (BitVec.ofNat 32 m).getLsbD i = _
  rw [BitVec.getLsbD_ofNat]
  simp [hi]
theorem mt_of (x : Int32) : ∃ n, n < 2 ^ 32 ∧ x = nI n :=
  ⟨x.toBitVec.toNat, x.toBitVec.isLt, Int32.toBitVec_inj.mp (BitVec.eq_of_toNat_eq (by
    show _ = (BitVec.ofNat 32 x.toBitVec.toNat).toNat
    rw [BitVec.toNat_ofNat, Nat.mod_eq_of_lt x.toBitVec.isLt]))⟩
theorem mt_m1 : ∀ i : Nat, i < 32 → (-1 : Int32).toBitVec.getLsbD i = true := by decide +kernel
theorem mt_sub (x : Int32) {m : Nat} (hm : m < 128) (h : x &&& (nI m ^^^ (-1)) = 0) : ∃ w, w < 128 ∧ x = nI w ∧ mj_sb w m := by
  obtain ⟨w, hw, rfl⟩ := mt_of x
  have sb : mj_sb w m := by
    intro i hi
    rcases Nat.lt_or_ge i 32 with g | g
    · have a : (nI w &&& (nI m ^^^ (-1))).toBitVec.getLsbD i = false := by
        rw [h]; exact BitVec.getLsbD_zero
      rw [Int32.toBitVec_and, Int32.toBitVec_xor, BitVec.getLsbD_and, BitVec.getLsbD_xor, mt_bi w g, mt_bi m g, mt_m1 i g, hi] at a
      simpa using a
    · rw [Nat.testBit_lt_two_pow (Nat.lt_of_lt_of_le hw (Nat.pow_le_pow_right (by omega) g))] at hi
      cases hi
  refine ⟨w, ?_, rfl, sb⟩
  have : w &&& m = w := Nat.eq_of_testBit_eq fun i => by
    rw [Nat.testBit_and]
    cases a : w.testBit i with
    | true => rw [sb i a]; rfl
    | false => rfl
  rw [← this]
  exact Nat.lt_of_le_of_lt Nat.and_le_right hm
theorem mt_sub' {w m : Nat} (hw : w < 128) (hm : m < 128) (h : mj_sb w m) : nI w &&& (nI m ^^^ (-1)) = 0 := by
  apply Int32.toBitVec_inj.mp
  apply BitVec.eq_of_getLsbD_eq
  intro i hi
  rw [Int32.toBitVec_and, Int32.toBitVec_xor, BitVec.getLsbD_and, BitVec.getLsbD_xor, mt_bi w hi, mt_bi m hi, mt_m1 i hi]
  have e : (0 : Int32).toBitVec.getLsbD i = false := BitVec.getLsbD_zero
  rw [e]
  cases a : w.testBit i with
  | true => rw [h i a]; rfl
  | false => rfl
theorem mt_vn1 : vp_nar .boolean 1 = 1 := by decide
theorem mt_vn0 : vp_nar .boolean 0 = 0 := by decide
theorem mt_na1 : narrow .boolean (.int 1) = .int 1 := rfl
theorem mt_na0 : narrow .boolean (.int 0) = .int 0 := rfl
end
section
/-! the component's trial methods against the pictures -/
def mj_us (φ τ : Nat → Nat) : Nat → Nat → Prop := fun i s => φ i ≤ s ∧ s ≤ τ i
def mx_ok (φ τ ρ ω : Nat → Nat) (F T tr tw : Nat → Int32) : Prop :=
  (∀ i, i < 7 → F i = nI (φ i)) ∧ (∀ i, i < 7 → T i = nI (τ i)) ∧ (∀ i, i < 7 → φ i ≤ 11) ∧ (∀ i, i < 7 → τ i ≤ 11) ∧
  (∀ s, s < 12 → tr s = nI (ρ s)) ∧ (∀ s, s < 12 → ρ s ≤ 4) ∧ (∀ i, i < 7 → tw i = nI (ω i)) ∧ (∀ i, i < 7 → ω i ≤ 20)
variable {post : Int32 → Prop} {c p : Int32} {R F T V tr tw : Nat → Int32} {φ τ ρ ω : Nat → Nat}
theorem mx_u49 (H : mx_ok φ τ ρ ω F T tr tw) {J9 : Int32 → Int32 → Int32 → Prop} {m s i y : Nat} {x3 z : Int32} (hm : m < 128) (hi : i < 7) (hy : y ≤ 12)
    (hk : (m.testBit i = true → ¬ z = 0 → y ≤ τ i) → J9 x3 (nI y) (nI (i + 1)))
    (ht : m.testBit i = true → ¬ z = 0 → τ i < y → J9 ((1 : Int32) <<< (nI i &&& 31)) (nI (τ i)) (nI (i + 1))) :
    wX_mostUrgent_49 post J9 (nI m) (nI s) x3 (nI y) (nI i) ((1 : Int32) <<< (nI i &&& 31)) z c p R F T V tr tw := by
  obtain ⟨hF, hT, hf, ht', -⟩ := H
  have t11 := ht' i hi
  refine br_c (fun h => nm_r (nI_1 i) (hk fun a => ?_)) (fun h => br_c (fun hz => nm_r (nI_1 i) (hk fun _ b => absurd hz b)) (fun hz => ⟨pk_in i 7 hi, ?_⟩))
  · rw [(mt_bit m hm i hi).mp h] at a; cases a
  · have hb : m.testBit i = true := by
      cases a : m.testBit i with
      | true => rfl
      | false => exact absurd ((mt_bit m hm i hi).mpr a) h
    exact pk_le y (τ i) (fun g => nm_r (nI_1 i) (hk fun _ _ => g)) (fun g => ⟨pk_in i 7 hi, nm_r (mt_at hT hi) (nm_r (nI_1 i) (ht hb hz g))⟩) rfl (mt_at hT hi) (by omega) (by omega)
def mx_uS (φ τ : Nat → Nat) (m s i : Nat) (x3 : Int32) (y : Nat) : Prop :=
  (x3 = 0 ∧ y = 12 ∧ ∀ k, k < i → m.testBit k = true → ¬ mj_us φ τ k s) ∨
  ∃ j, j < i ∧ m.testBit j = true ∧ mj_us φ τ j s ∧ x3 = (1 : Int32) <<< (nI j &&& 31) ∧ y = τ j ∧ ∀ k, k < i → m.testBit k = true → mj_us φ τ k s → τ j ≤ τ k
theorem mx_u9 (H : mx_ok φ τ ρ ω F T tr tw) {m s : Nat} (hm : m < 128) (hs : s < 12)
    (h0 : (∀ k, k < 7 → m.testBit k = true → ¬ mj_us φ τ k s) → post 0)
    (h1 : ∀ j, j < 7 → m.testBit j = true → mj_us φ τ j s → (∀ k, k < 7 → m.testBit k = true → mj_us φ τ k s → τ j ≤ τ k) → post ((1 : Int32) <<< (nI j &&& 31))) :
    ∀ (d i : Nat) (x3 : Int32) (y : Nat), i + d = 7 → mx_uS φ τ m s i x3 y → wX_mostUrgent_9 post (nI m) (nI s) c p R F T V tr tw (d + 1) x3 (nI y) (nI i) := by
  intro d
  induction d with
  | zero =>
    intro i x3 y hd hS
    have e : i = 7 := by omega
    subst e
    refine pk_le 7 7 (fun _ => ?_) (fun h => absurd h (by omega))
    rcases hS with ⟨a, _, b⟩ | ⟨j, j7, a, b, e, _, g⟩
    · rw [a]; exact h0 b
    · rw [e]; exact h1 j j7 a b g
  | succ d ih =>
    intro i x3 y hd hS
    have hi : i < 7 := by omega
    have H' := H
    obtain ⟨hF, hT, hf, ht', -⟩ := H'
    have t11 := ht' i hi
    have f11 := hf i hi
    have y12 : y ≤ 12 := by
      rcases hS with ⟨_, a, _⟩ | ⟨j, j7, _, _, _, a, _⟩
      · omega
      · have := ht' j (by omega); omega
    have keep : (m.testBit i = true → mj_us φ τ i s → y ≤ τ i) → wX_mostUrgent_9 post (nI m) (nI s) c p R F T V tr tw (d + 1) x3 (nI y) (nI (i + 1)) := by
      intro hk
      refine ih (i + 1) x3 y (by omega) ?_
      rcases hS with ⟨a, b, g⟩ | ⟨j, j7, a, b, e, f, g⟩
      · refine .inl ⟨a, b, lt_s g fun q u => ?_⟩
        have := hk q u
        omega
      · exact .inr ⟨j, by omega, a, b, e, f, lt_s g fun q u => by have := hk q u; omega⟩
    have tak : m.testBit i = true → mj_us φ τ i s → τ i < y → wX_mostUrgent_9 post (nI m) (nI s) c p R F T V tr tw (d + 1) ((1 : Int32) <<< (nI i &&& 31)) (nI (τ i)) (nI (i + 1)) := by
      intro hb hu hy
      refine ih (i + 1) _ (τ i) (by omega) (.inr ⟨i, by omega, hb, hu, rfl, rfl, lt_s (fun k hk q u => ?_) fun _ _ => Nat.le_refl _⟩)
      rcases hS with ⟨a, b, g⟩ | ⟨j, j7, a, b, e, f, g⟩
      · exact absurd u (g k hk q)
      · have := g k hk q u
        omega
    refine pk_le 7 i (fun h => absurd h (by omega)) (fun _ => nm_e ⟨pk_in i 7 hi, ?_⟩)
    refine pk_lt s (φ i) (fun h => ?_) (fun h => ⟨pk_in i 7 hi, ?_⟩) rfl (mt_at hF hi) (by omega) (by omega)
    · exact mx_u49 H hm hi y12 (fun _ => keep fun _ u => absurd u.1 (by omega)) (fun _ z => absurd rfl z)
    · refine pk_lt (τ i) s (fun g => ?_) (fun g => ?_) (mt_at hT hi) rfl (by omega) (by omega)
      · exact mx_u49 H hm hi y12 (fun _ => keep fun _ u => absurd u.2 (by omega)) (fun _ z => absurd rfl z)
      · exact mx_u49 H hm hi y12 (fun z => keep fun b _ => z b (by decide)) (fun b _ q => tak b ⟨h, g⟩ q)
theorem mx_urg (H : mx_ok φ τ ρ ω F T tr tw) {m s : Nat} (hm : m < 128) (hs : s < 12)
    (h0 : (∀ k, k < 7 → m.testBit k = true → ¬ mj_us φ τ k s) → post 0)
    (h1 : ∀ j, j < 7 → m.testBit j = true → mj_us φ τ j s → (∀ k, k < 7 → m.testBit k = true → mj_us φ τ k s → τ j ≤ τ k) → post ((1 : Int32) <<< (nI j &&& 31))) :
    wpX_mostUrgent post (c, p, R, F, T, V, tr, tw) (nI m) (nI s) :=
  ⟨8, mx_u9 H hm hs h0 h1 7 0 0 12 rfl (.inl ⟨rfl, rfl, lt_0⟩)⟩
theorem mx_cp21 (H : mx_ok φ τ ρ ω F T tr tw) {J4 : Int32 → Int32 → Prop} {s r : Nat} {L : List Nat} (hs : s < 12) (hr : r ≤ 4) (hL : ∀ t, t ∈ L → s ≤ t) :
    ∀ k q m : Nat, q + k = r → m < 128 → (∀ w, w < 128 → (mj_G (mj_us φ τ) (List.replicate k s ++ L) (mj_ms m) ↔ mj_G (mj_us φ τ) L (mj_ms w)) → J4 (nI w) (nI (s + 1))) →
    wX_canPlace_21 post J4 (nI s) (nI r) c p R F T V tr tw (k + 1) (nI m) (nI q) := by
  intro k
  induction k with
  | zero =>
    intro q m hq hm h
    exact pk_le r q (fun _ => nm_r (nI_1 s) (h m hm Iff.rfl)) (fun g => absurd g (by omega))
  | succ k ih =>
    intro q m hq hm h
    have hL' : ∀ t, t ∈ List.replicate k s ++ L → s ≤ t := by
      intro t ht
      rcases List.mem_append.mp ht with a | a
      · rw [(List.mem_replicate.mp a).2]; exact Nat.le_refl _
      · exact hL t a
    refine pk_le r q (fun g => absurd g (by omega)) (fun _ => ?_)
    refine mx_urg H hm hs (fun hn => nm_r (mt_n0 m hm) (nm_r (nI_1 q) (ih (q + 1) m (by omega) hm fun w hw e => h w hw ?_))) (fun j hj hb hu hmin => nm_r (mt_cl m hm j hj) (nm_r (nI_1 q) (ih (q + 1) (mj_cl m j) (by omega) (mj_cl_lt hm j) fun w hw e => h w hw ?_)))
    · exact (mj_no (mj_us φ τ) (s := s) (L := List.replicate k s ++ L) fun i hi => hn i (mj_lt7 hm hi) hi).trans e
    · rw [mj_ms_cl hm] at e
      refine (mj_gr (mj_us φ τ) (s := s) (L := List.replicate k s ++ L) (W := mj_ms m) hb hu fun i hi ui t ht ut => ?_).trans e
      have a := hmin i (mj_lt7 hm hi) hi ui
      have b := hL' t ht
      exact ⟨Nat.le_trans ui.1 b, Nat.le_trans ut.2 a⟩
theorem mx_cp4 (H : mx_ok φ τ ρ ω F T tr tw) : ∀ d s m : Nat, s + d = 12 → m < 128 → (mj_G (mj_us φ τ) (mj_pl ρ d s) (mj_ms m) → post 1) → (¬ mj_G (mj_us φ τ) (mj_pl ρ d s) (mj_ms m) → post 0) →
    wX_canPlace_4 post c p R F T V tr tw (d + 1) (nI m) (nI s) := by
  intro d
  induction d with
  | zero =>
    intro s m hd hm h1 h0
    refine pk_le 12 s (fun _ => ?_) (fun g => absurd g (by omega))
    refine pk_eq m 0 (fun e => h1 fun i => ?_) (fun e => h0 fun h => e ?_)
    · rw [e]; simp [mj_ms]
    · exact Nat.eq_of_testBit_eq fun i => by rw [Nat.zero_testBit]; exact h i
  | succ d ih =>
    intro s m hd hm h1 h0
    have hs : s < 12 := by omega
    have r4 := H.2.2.2.2.2.1 s hs
    refine pk_le 12 s (fun g => absurd g (by omega)) (fun _ => ⟨pk_in s 12 hs, nm_r (mt_at H.2.2.2.2.1 hs) ⟨ρ s + 1, ?_⟩⟩)
    refine mx_cp21 H hs r4 (L := mj_pl ρ d (s + 1)) (fun t ht => ?_) (ρ s) 0 m (by omega) hm fun w hw e => ?_
    · have := (mj_pl_mem ρ d (s + 1) t).mp ht
      omega
    · exact ih (s + 1) w (by omega) hw (fun g => h1 (e.mpr g)) (fun g => h0 fun g' => g (e.mp g'))
theorem mx_cp (H : mx_ok φ τ ρ ω F T tr tw) {m : Nat} (hm : m < 128) (h1 : mj_G (mj_us φ τ) (mj_pl ρ 12 0) (mj_ms m) → post 1) (h0 : ¬ mj_G (mj_us φ τ) (mj_pl ρ 12 0) (mj_ms m) → post 0) :
    wpX_canPlace post (c, p, R, F, T, V, tr, tw) (nI m) := ⟨13, mx_cp4 H 12 0 m rfl hm h1 h0⟩
def mx_pS (ω : Nat → Nat) (m i : Nat) (x2 : Int32) (y : Nat) : Prop :=
  (x2 = 0 ∧ y = 0 ∧ ∀ k, k < i → m.testBit k = false) ∨
  ∃ j, j < i ∧ m.testBit j = true ∧ x2 = (1 : Int32) <<< (nI j &&& 31) ∧ y = ω j ∧ ∀ k, k < i → m.testBit k = true → k ≠ j → ω k < ω j ∨ (ω k = ω j ∧ j < k)
theorem mx_p7 (H : mx_ok φ τ ρ ω F T tr tw) {m : Nat} (hm : m < 128) (hw : ∀ i, m.testBit i = true → 1 ≤ ω i)
    (h0 : (∀ k, k < 7 → m.testBit k = false) → post 0)
    (h1 : ∀ j, j < 7 → m.testBit j = true → (∀ k, k < 7 → m.testBit k = true → k ≠ j → ω k < ω j ∨ (ω k = ω j ∧ j < k)) → post ((1 : Int32) <<< (nI j &&& 31))) :
    ∀ (d i : Nat) (x2 : Int32) (y : Nat), i + d = 7 → mx_pS ω m i x2 y → wX_mostPreferred_7 post (nI m) c p R F T V tr tw (d + 1) x2 (nI y) (nI i) := by
  intro d
  induction d with
  | zero =>
    intro i x3 y hd hS
    have e : i = 7 := by omega
    subst e
    refine pk_le 7 7 (fun _ => ?_) (fun h => absurd h (by omega))
    rcases hS with ⟨a, _, b⟩ | ⟨j, j7, a, e, _, g⟩
    · rw [a]; exact h0 b
    · rw [e]; exact h1 j j7 a g
  | succ d ih =>
    intro i x3 y hd hS
    have hi : i < 7 := by omega
    obtain ⟨-, -, -, -, -, -, hW, hw20⟩ := H
    have w20 := hw20 i hi
    have y20 : y ≤ 20 := by
      rcases hS with ⟨_, a, _⟩ | ⟨j, j7, _, _, a, _⟩
      · omega
      · have := hw20 j (by omega); omega
    refine pk_le 7 i (fun h => absurd h (by omega)) (fun _ => nm_e ?_)
    refine br_c (fun h => nm_r (nI_1 i) ?_) (fun h => ⟨pk_in i 7 hi, ?_⟩)
    · have hb := (mt_bit m hm i hi).mp h
      refine ih (i + 1) x3 y (by omega) ?_
      rcases hS with ⟨a, b, g⟩ | ⟨j, j7, a, e, f, g⟩
      · exact .inl ⟨a, b, lt_s g hb⟩
      · exact .inr ⟨j, by omega, a, e, f, lt_s g fun q => by rw [hb] at q; cases q⟩
    · have hb : m.testBit i = true := by
        cases a : m.testBit i with
        | true => rfl
        | false => exact absurd ((mt_bit m hm i hi).mpr a) h
      have w1 := hw i hb
      refine pk_le (ω i) y (fun g => nm_r (nI_1 i) (ih (i + 1) x3 y (by omega) ?_)) (fun g => ⟨pk_in i 7 hi, nm_r (mt_at hW hi) (nm_r (nI_1 i) (ih (i + 1) _ (ω i) (by omega) ?_))⟩) (mt_at hW hi) rfl (by omega) (by omega)
      · rcases hS with ⟨a, b, _⟩ | ⟨j, j7, a, e, f, q⟩
        · omega
        · exact .inr ⟨j, by omega, a, e, f, lt_s q fun _ _ => by omega⟩
      · refine .inr ⟨i, by omega, hb, rfl, rfl, lt_s (fun k hk b _ => ?_) fun _ n => absurd rfl n⟩
        rcases hS with ⟨a, _, q⟩ | ⟨j, j7, a, e, f, q⟩
        · rw [q k hk] at b; cases b
        · by_cases kj : k = j
          · subst kj; omega
          · have := q k hk b kj
            omega
theorem mx_pref (H : mx_ok φ τ ρ ω F T tr tw) {m : Nat} (hm : m < 128) (hw : ∀ i, m.testBit i = true → 1 ≤ ω i)
    (h0 : (∀ k, k < 7 → m.testBit k = false) → post 0)
    (h1 : ∀ j, j < 7 → m.testBit j = true → (∀ k, k < 7 → m.testBit k = true → k ≠ j → ω k < ω j ∨ (ω k = ω j ∧ j < k)) → post ((1 : Int32) <<< (nI j &&& 31))) :
    wpX_mostPreferred post (c, p, R, F, T, V, tr, tw) (nI m) :=
  ⟨8, mx_p7 H hm hw h0 h1 7 0 0 0 rfl (.inl ⟨rfl, rfl, lt_0⟩)⟩
theorem mx_b9 (H : mx_ok φ τ ρ ω F T tr tw) {pm o : Nat} (hw : ∀ i, pm.testBit i = true → 1 ≤ ω i) (ho : mj_opt (mj_us φ τ) (mj_pl ρ 12 0) (mj_k ω) pm o) (hp : post (nI o)) :
    ∀ d t kc w : Nat, t + d = 7 → mj_gi pm o kc w → mj_ct w ≤ d → wX_bestSet_9 post c p R F T V tr tw (d + 1) (nI kc) (nI w) (nI t) := by
  intro d
  induction d with
  | zero =>
    intro t kc w hd hg hc
    refine pk_le 7 t (fun _ => ?_) (fun g => absurd g (by omega))
    rw [mj_gi_x hg ho.2.1 (mj_ct_0 hg.2.1 (by omega))]
    exact hp
  | succ d ih =>
    intro t kc w hd hg hc
    have w8 := hg.2.1
    have k8 := hg.1
    refine pk_le 7 t (fun g => absurd g (by omega)) (fun _ => ?_)
    refine mx_pref H w8 (fun i hi => hw i (hg.2.2.2.1 i hi)) (fun hn => nm_r (mt_n0 w w8) ?_) (fun j hj hb hmx => nm_r (mt_cl w w8 j hj) ?_)
    · have w0 : ∀ i, w.testBit i = false := fun i => mj_nf fun a => by rw [hn i (mj_lt7 w8 a)] at a; cases a
      have c0 : mj_ct w ≤ d := by
        have e : w = 0 := Nat.eq_of_testBit_eq fun i => by rw [Nat.zero_testBit]; exact w0 i
        rw [e]; exact Nat.zero_le _
      rw [mt_o0 kc k8]
      refine mx_cp H k8 (fun _ => br_f (by decide) (nm_e (nm_r (nI_1 t) (ih (t + 1) kc w (by omega) hg c0)))) (fun _ => br_t rfl (nm_r (nI_1 t) (ih (t + 1) kc w (by omega) hg c0)))
    · have ct := mj_ct_cl w8 hb
      have hk : ∀ i, w.testBit i = true → i ≠ j → mj_k ω i < mj_k ω j := fun i hi ne => mj_k_lt ω (mj_lt7 w8 hi) hj (hmx i (mj_lt7 w8 hi) hi ne)
      rw [mt_or kc k8 j hj]
      refine mx_cp H (mj_or_lt k8 hj) (fun g => br_f (by decide) (nm_e (nm_r (nI_1 t) (ih (t + 1) _ _ (by omega) (mj_gi_k hg hb ?_) (by omega))))) (fun g => br_t rfl (nm_r (nI_1 t) (ih (t + 1) kc _ (by omega) (mj_gi_l hg hb ?_) (by omega))))
      · exact mj_take (fun i hi => mj_k1 ω hi) ho hg hb hk g
      · exact mj_leave ho hg g
theorem mx_best (H : mx_ok φ τ ρ ω F T tr tw) {pm o : Nat} (hm : pm < 128) (hw : ∀ i, pm.testBit i = true → 1 ≤ ω i) (ho : mj_opt (mj_us φ τ) (mj_pl ρ 12 0) (mj_k ω) pm o) (hp : post (nI o)) :
    wpX_bestSet post (c, nI pm, R, F, T, V, tr, tw) :=
  ⟨8, mx_b9 H hw ho hp 7 0 0 pm rfl (mj_gi_0 hm) (mj_sm_1 _ 7)⟩
end
section
/-! the best mask by name; the slots, job by job -/
noncomputable def mj_best (φ τ ρ ω : Nat → Nat) (pm : Nat) : Nat := Classical.choose (mj_opt_ex (mj_us φ τ) (mj_pl ρ 12 0) (mj_k ω) pm)
theorem mj_best_sp (φ τ ρ ω : Nat → Nat) (pm : Nat) : mj_opt (mj_us φ τ) (mj_pl ρ 12 0) (mj_k ω) pm (mj_best φ τ ρ ω pm) :=
  Classical.choose_spec (mj_opt_ex (mj_us φ τ) (mj_pl ρ 12 0) (mj_k ω) pm)
theorem mj_least (P : Nat → Prop) (h : ∃ k, P k) : ∃ k, P k ∧ ∀ j, j < k → ¬ P j := by
  obtain ⟨k, hk⟩ := h
  revert hk
  refine Nat.strongRecOn (motive := fun k => P k → ∃ k, P k ∧ ∀ j, j < k → ¬ P j) k fun k ih hk => ?_
  by_cases g : ∃ j, j < k ∧ P j
  · obtain ⟨j, hj, pj⟩ := g
    exact ih j hj pj
  · exact ⟨k, hk, fun j hj pj => g ⟨j, hj, pj⟩⟩
def mj_cond (φ τ ρ : Nat → Nat) (j m s : Nat) : Prop :=
  mj_us φ τ j s ∧ s < 12 ∧ 0 < ρ s ∧ mj_G (mj_us φ τ) (mj_pl (mj_nu ρ s (ρ s - 1)) 12 0) (mj_ms m)
noncomputable def mj_fs (φ τ ρ : Nat → Nat) (j m : Nat) : Nat := Classical.epsilon (fun s => mj_cond φ τ ρ j m s ∧ ∀ t, t < s → ¬ mj_cond φ τ ρ j m t)
theorem mj_fs_sp {φ τ ρ : Nat → Nat} {j m : Nat} (h : ∃ s, mj_cond φ τ ρ j m s) : mj_cond φ τ ρ j m (mj_fs φ τ ρ j m) ∧ ∀ t, t < mj_fs φ τ ρ j m → ¬ mj_cond φ τ ρ j m t :=
  Classical.epsilon_spec (p := fun s => mj_cond φ τ ρ j m s ∧ ∀ t, t < s → ¬ mj_cond φ τ ρ j m t) (mj_least _ h)
theorem mj_pin {us : Nat → Nat → Prop} {ρ : Nat → Nat} {m j s : Nat} (hm : m < 128) (hs : s < 12) (hj : m.testBit j = true) :
    mj_G (fun i t => if i = j then t = s else us i t) (mj_pl ρ 12 0) (mj_ms m) ↔ 0 < ρ s ∧ mj_G us (mj_pl (mj_nu ρ s (ρ s - 1)) 12 0) (mj_ms (mj_cl m j)) := by
  rw [mj_ms_cl hm]
  constructor
  · intro h
    obtain ⟨t, ht, ut, h⟩ := mj_E _ j _ _ hj h
    have e : t = s := by simpa using ut
    subst e
    have hr := ((mj_pl_mem ρ 12 0 t).mp ht).2.2
    refine ⟨hr, ?_⟩
    rw [mj_pl_er ρ t hr 12 0 (by omega) (by omega)]
    refine mj_cg _ _ (fun i x hi _ hu => ?_) h
    have := (mj_rt.mp hi).2
    simpa [this] using hu
  · rintro ⟨hr, h⟩
    rw [mj_pl_er ρ s hr 12 0 (by omega) (by omega)] at h
    refine mj_ins _ s j _ _ ((mj_pl_mem ρ 12 0 s).mpr ⟨by omega, by omega, hr⟩) (by simp) hj (mj_cg _ _ (fun i x hi _ hu => ?_) h)
    have := (mj_rt.mp hi).2
    simpa [this] using hu
theorem mj_cond_ex {φ τ ρ : Nat → Nat} {j m : Nat} (hm : m < 128) (hj : m.testBit j = true) (h : mj_G (mj_us φ τ) (mj_pl ρ 12 0) (mj_ms m)) : ∃ s, mj_cond φ τ ρ j (mj_cl m j) s := by
  obtain ⟨s, hs, us, h⟩ := mj_E _ j _ _ hj h
  have hr := (mj_pl_mem ρ 12 0 s).mp hs
  refine ⟨s, us, by omega, hr.2.2, ?_⟩
  rw [mj_pl_er ρ s hr.2.2 12 0 (by omega) (by omega), mj_ms_cl hm]
  exact h
def mj_rest (o : Nat) : Nat → Nat
  | 0 => o
  | j + 1 => mj_cl (mj_rest o j) j
noncomputable def mj_run (φ τ ρ : Nat → Nat) (o : Nat) : Nat → Nat → Nat
  | 0 => ρ
  | j + 1 => if o.testBit j = true then mj_nu (mj_run φ τ ρ o j) (mj_fs φ τ (mj_run φ τ ρ o j) j (mj_rest o (j + 1))) (mj_run φ τ ρ o j (mj_fs φ τ (mj_run φ τ ρ o j) j (mj_rest o (j + 1))) - 1) else mj_run φ τ ρ o j
noncomputable def mj_slot (φ τ ρ : Nat → Nat) (o j : Nat) : Nat := mj_fs φ τ (mj_run φ τ ρ o j) j (mj_rest o (j + 1))
theorem mj_run_t {φ τ ρ : Nat → Nat} {o j : Nat} (h : o.testBit j = true) : mj_run φ τ ρ o (j + 1) = mj_nu (mj_run φ τ ρ o j) (mj_slot φ τ ρ o j) (mj_run φ τ ρ o j (mj_slot φ τ ρ o j) - 1) := by
  rw [mj_run, if_pos h]
  rfl
theorem mj_run_f {φ τ ρ : Nat → Nat} {o j : Nat} (h : o.testBit j = false) : mj_run φ τ ρ o (j + 1) = mj_run φ τ ρ o j := by
  rw [mj_run, if_neg (by rw [h]; decide)]
theorem mj_rest_lt {o : Nat} (h : o < 128) : ∀ j : Nat, mj_rest o j < 128
  | 0 => h
  | j + 1 => mj_cl_lt (mj_rest_lt h j) j
theorem mj_rest_b {o : Nat} (h : o < 128) : ∀ j i : Nat, (mj_rest o j).testBit i = true ↔ o.testBit i = true ∧ j ≤ i
  | 0, i => ⟨fun a => ⟨a, Nat.zero_le _⟩, fun a => a.1⟩
  | j + 1, i => by
    rw [mj_rest, mj_tb_cl (mj_rest_lt h j), mj_rest_b h j i]
    constructor
    · rintro ⟨⟨a, b⟩, c⟩
      exact ⟨a, by omega⟩
    · rintro ⟨a, b⟩
      exact ⟨⟨a, by omega⟩, by omega⟩
theorem mj_rest_f {o j : Nat} (h : o < 128) (hj : o.testBit j = false) : mj_rest o (j + 1) = mj_rest o j := by
  apply Nat.eq_of_testBit_eq
  intro i
  have a := mj_rest_b h (j + 1) i
  have b := mj_rest_b h j i
  have e : (mj_rest o (j + 1)).testBit i = true ↔ (mj_rest o j).testBit i = true := by
    rw [a, b]
    constructor
    · rintro ⟨x, y⟩; exact ⟨x, by omega⟩
    · rintro ⟨x, y⟩
      refine ⟨x, ?_⟩
      by_cases g : i = j
      · rw [g, hj] at x; cases x
      · omega
  exact Bool.eq_iff_iff.mpr e
theorem mj_run_ok {φ τ ρ : Nat → Nat} {o : Nat} (h : o < 128) (hg : mj_G (mj_us φ τ) (mj_pl ρ 12 0) (mj_ms o)) (hr : ∀ s, s < 12 → ρ s ≤ 4) :
    ∀ j : Nat, mj_G (mj_us φ τ) (mj_pl (mj_run φ τ ρ o j) 12 0) (mj_ms (mj_rest o j)) ∧ ∀ s, s < 12 → mj_run φ τ ρ o j s ≤ 4
  | 0 => ⟨hg, hr⟩
  | j + 1 => by
    obtain ⟨a, b⟩ := mj_run_ok h hg hr j
    cases e : o.testBit j with
    | true =>
      have c := (mj_fs_sp (mj_cond_ex (mj_rest_lt h j) ((mj_rest_b h j j).mpr ⟨e, Nat.le_refl _⟩) a)).1
      rw [mj_run_t e]
      refine ⟨c.2.2.2, fun s hs => ?_⟩
      have := b s hs
      unfold mj_nu
      split
      · rename_i g
        rw [← g]; omega
      · exact this
    | false =>
      rw [mj_run_f e, mj_rest_f h e]
      exact ⟨a, b⟩
theorem mj_slot_sp {φ τ ρ : Nat → Nat} {o j : Nat} (h : o < 128) (hg : mj_G (mj_us φ τ) (mj_pl ρ 12 0) (mj_ms o)) (hr : ∀ s, s < 12 → ρ s ≤ 4) (e : o.testBit j = true) :
    mj_cond φ τ (mj_run φ τ ρ o j) j (mj_rest o (j + 1)) (mj_slot φ τ ρ o j) ∧ ∀ t, t < mj_slot φ τ ρ o j → ¬ mj_cond φ τ (mj_run φ τ ρ o j) j (mj_rest o (j + 1)) t :=
  mj_fs_sp (mj_cond_ex (mj_rest_lt h j) ((mj_rest_b h j j).mpr ⟨e, Nat.le_refl _⟩) (mj_run_ok h hg hr j).1)
theorem mj_inv {φ τ ρ : Nat → Nat} {o : Nat} (h : o < 128) (hg : mj_G (mj_us φ τ) (mj_pl ρ 12 0) (mj_ms o)) (hr : ∀ s, s < 12 → ρ s ≤ 4) :
    ∀ (j : Nat) (us : Nat → Nat → Prop), mj_G (fun i s => if i < j then s = mj_slot φ τ ρ o i else us i s) (mj_pl ρ 12 0) (mj_ms o) ↔ mj_G us (mj_pl (mj_run φ τ ρ o j) 12 0) (mj_ms (mj_rest o j))
  | 0, us => by
    have e : (fun i s => if i < 0 then s = mj_slot φ τ ρ o i else us i s) = us := by
      funext i s
      rw [if_neg (by omega)]
    rw [e]
    exact Iff.rfl
  | j + 1, us => by
    cases e : o.testBit j with
    | true =>
      have ih := mj_inv h hg hr j (fun i t => if i = j then t = mj_slot φ τ ρ o j else us i t)
      have c := (mj_slot_sp h hg hr e).1
      have p := mj_pin (us := us) (ρ := mj_run φ τ ρ o j) (mj_rest_lt h j) c.2.1 ((mj_rest_b h j j).mpr ⟨e, Nat.le_refl _⟩)
      have f : (fun i s => if i < j + 1 then s = mj_slot φ τ ρ o i else us i s) = (fun i s => if i < j then s = mj_slot φ τ ρ o i else if i = j then s = mj_slot φ τ ρ o j else us i s) := by
        funext i s
        by_cases g : i < j
        · rw [if_pos g, if_pos (by omega)]
        · by_cases g2 : i = j
          · rw [if_neg g, if_pos g2, if_pos (by omega), g2]
          · rw [if_neg g, if_neg g2, if_neg (by omega)]
      rw [f, mj_run_t e]
      refine ih.trans (p.trans ⟨fun x => x.2, fun x => ⟨c.2.2.1, x⟩⟩)
    | false =>
      have ih := mj_inv h hg hr j us
      rw [mj_run_f e, mj_rest_f h e]
      refine Iff.trans ?_ ih
      have ne : ∀ i, mj_ms o i = true → i ≠ j := fun i hi g => by
        rw [g] at hi
        have hi : o.testBit j = true := hi
        rw [e] at hi; cases hi
      constructor
      · refine mj_cg _ _ fun i s hi _ hu => ?_
        have := ne i hi
        by_cases g : i < j
        · rw [if_pos (by omega)] at hu
          rw [if_pos g]; exact hu
        · rw [if_neg (by omega)] at hu
          rw [if_neg g]; exact hu
      · refine mj_cg _ _ fun i s hi _ hu => ?_
        have := ne i hi
        by_cases g : i < j
        · rw [if_pos g] at hu
          rw [if_pos (by omega)]; exact hu
        · rw [if_neg g] at hu
          rw [if_neg (by omega)]; exact hu
theorem mj_ycond {φ τ ρ : Nat → Nat} {o j s : Nat} (h : o < 128) (hg : mj_G (mj_us φ τ) (mj_pl ρ 12 0) (mj_ms o)) (hr : ∀ s, s < 12 → ρ s ≤ 4) (e : o.testBit j = true) (hs : s < 12) (hu : mj_us φ τ j s) :
    mj_G (fun i t => if i < j then t = mj_slot φ τ ρ o i else if i = j then t = s else mj_us φ τ i t) (mj_pl ρ 12 0) (mj_ms o) ↔ mj_cond φ τ (mj_run φ τ ρ o j) j (mj_rest o (j + 1)) s := by
  refine (mj_inv h hg hr j (fun i t => if i = j then t = s else mj_us φ τ i t)).trans ?_
  refine (mj_pin (us := mj_us φ τ) (ρ := mj_run φ τ ρ o j) (mj_rest_lt h j) hs ((mj_rest_b h j j).mpr ⟨e, Nat.le_refl _⟩)).trans ?_
  exact ⟨fun x => ⟨hu, hs, x.1, x.2⟩, fun x => ⟨x.2.2.1, x.2.2.2⟩⟩
end
section
/-! the component's other methods -/
variable {c p : Int32} {R F T V tr tw : Nat → Int32} {φ τ ρ ω : Nat → Nat}
theorem mx_isin {post : Int32 → Prop} {m : Nat} (hm : m < 128) (x : Int32) (h1 : ∀ j, j < 7 → x = nI j → m.testBit j = true → post 1) (h0 : (∀ j, j < 7 → x = nI j → m.testBit j = false) → post 0) :
    wpX_isIn post (nI m) x := by
  by_cases hx : x < 0
  · refine br_t hx (h0 fun j hj e => ?_)
    subst e
    exact absurd hx (nI_pos (by omega))
  · obtain ⟨j, hj, rfl⟩ := nI_of hx
    refine br_f hx (pk_le 7 j (fun g => h0 fun i hi e => ?_) (fun g => br_c (fun b => h0 fun i hi e => ?_) (fun b => h1 j g rfl ?_)))
    · rw [nI_eq hj (by omega)] at e
      omega
    · rw [nI_eq hj (by omega)] at e
      subst e
      exact (mt_bit m hm j g).mp b
    · cases a : m.testBit j with
      | true => rfl
      | false => exact absurd ((mt_bit m hm j g).mpr a) b
theorem mx_isinj {post : Int32 → Prop} {m j : Nat} (hm : m < 128) (hj : j < 7) (h1 : m.testBit j = true → post 1) (h0 : m.testBit j = false → post 0) : wpX_isIn post (nI m) (nI j) :=
  mx_isin hm (nI j) (fun i hi e b => h1 (by rw [(nI_eq (by omega) (by omega)).mp e]; exact b)) (fun b => h0 (b j hj rfl))
theorem mx_st28 {post : SX → Prop} (h : ∀ tw' : Nat → Int32, (∀ i, i < 7 → tw' i = V i) → post (c, p, R, F, T, V, tr, tw')) :
    ∀ (d i : Nat) (tw : Nat → Int32), i + d = 7 → (∀ k, k < i → tw k = V k) → wX_startTrial_28 post c p (d + 1) (nI i) R F T V tr tw := by
  intro d
  induction d with
  | zero =>
    intro i tw hd hk
    have e : i = 7 := by omega
    subst e
    exact pk_le 7 7 (fun _ => h tw hk) (fun g => absurd g (by omega))
  | succ d ih =>
    intro i tw hd hk
    have hi : i < 7 := by omega
    refine pk_le 7 i (fun g => absurd g (by omega)) (fun _ => ⟨pk_in i 7 hi, pk_in i 7 hi, nm_e (nm_r (nI_1 i) (ih (i + 1) _ (by omega) (lt_s (fun k hk' => ?_) ?_)))⟩)
    · rw [nI_clamp (by omega), pk_un (by omega)]; exact hk k hk'
    · rw [nI_clamp (by omega), pk_us]
theorem mx_st2 {post : SX → Prop} (h : ∀ tr' tw' : Nat → Int32, (∀ s, s < 12 → tr' s = R s) → (∀ i, i < 7 → tw' i = V i) → post (c, p, R, F, T, V, tr', tw')) :
    ∀ (d i : Nat) (tr : Nat → Int32), i + d = 12 → (∀ k, k < i → tr k = R k) → wX_startTrial_2 post c p (d + 1) (nI i) R F T V tr tw := by
  intro d
  induction d with
  | zero =>
    intro i tr hd hk
    have e : i = 12 := by omega
    subst e
    exact pk_le 12 12 (fun _ => ⟨8, mx_st28 (fun tw' htw => h tr tw' hk htw) 7 0 tw rfl lt_0⟩) (fun g => absurd g (by omega))
  | succ d ih =>
    intro i tr hd hk
    have hi : i < 12 := by omega
    refine pk_le 12 i (fun g => absurd g (by omega)) (fun _ => ⟨pk_in i 12 hi, pk_in i 12 hi, nm_e (nm_r (nI_1 i) (ih (i + 1) _ (by omega) (lt_s (fun k hk' => ?_) ?_)))⟩)
    · rw [nI_clamp (by omega), pk_un (by omega)]; exact hk k hk'
    · rw [nI_clamp (by omega), pk_us]
theorem mx_st {post : SX → Prop} (h : ∀ tr' tw' : Nat → Int32, (∀ s, s < 12 → tr' s = R s) → (∀ i, i < 7 → tw' i = V i) → post (c, p, R, F, T, V, tr', tw')) :
    wpX_startTrial post (c, p, R, F, T, V, tr, tw) := ⟨13, mx_st2 h 12 0 tr rfl lt_0⟩
theorem mx_t9 {post : Int32 → Prop} (H : mx_ok φ τ ρ ω F T tr tw) {o : Nat} (ho : o < 128) (hp : post (nI (mj_sm ω (mj_ms o) 7))) :
    ∀ d i : Nat, i + d = 7 → wX_bestTotal_9 post (nI o) c p R F T V tr tw (d + 1) (nI (mj_sm ω (mj_ms o) i)) (nI i) := by
  intro d
  induction d with
  | zero =>
    intro i hd
    have e : i = 7 := by omega
    subst e
    exact pk_le 7 7 (fun _ => hp) (fun g => absurd g (by omega))
  | succ d ih =>
    intro i hd
    have hi : i < 7 := by omega
    have n := ih (i + 1) (by omega)
    refine pk_le 7 i (fun g => absurd g (by omega)) (fun _ => mx_isinj ho hi (fun b => br_f (by decide) ⟨pk_in i 7 hi, nm_r ?_ (nm_r (nI_1 i) n)⟩) (fun b => br_t rfl (nm_r (nI_1 i) ?_)))
    · rw [mt_at H.2.2.2.2.2.2.1 hi, nI_add, mj_sm]
      simp [mj_ms, b]
    · rw [mj_sm] at n
      simp [mj_ms, b] at n
      exact n
theorem mx_tot {post : Int32 → Prop} (H : mx_ok φ τ ρ ω F T tr tw) {pm : Nat} (hm : pm < 128) (hw : ∀ i, pm.testBit i = true → 1 ≤ ω i) (hp : post (nI (mj_sm ω (mj_ms (mj_best φ τ ρ ω pm)) 7))) :
    wpX_bestTotal post (c, nI pm, R, F, T, V, tr, tw) := by
  unfold wpX_bestTotal
  have ho := mj_best_sp φ τ ρ ω pm
  exact mx_best H hm hw ho ⟨8, mx_t9 H ho.1 hp 7 0 rfl⟩
/-- the price: the least worth that is chosen, or 21 -/
def mj_pr (B : Nat → Prop) (r : Nat) : Prop := 1 ≤ r ∧ r ≤ 21 ∧ (r ≤ 20 → B r) ∧ ∀ w, 1 ≤ w → w < r → ¬ B w
theorem mj_pr_u {B : Nat → Prop} {r q : Nat} (h : mj_pr B r) (g : mj_pr B q) : r = q := by
  obtain ⟨a1, a2, a3, a4⟩ := h
  obtain ⟨b1, b2, b3, b4⟩ := g
  rcases Nat.lt_trichotomy r q with e | e | e
  · exact absurd (a3 (by omega)) (b4 r a1 e)
  · exact e
  · exact absurd (b3 (by omega)) (a4 q b1 e)
def mj_pB (φ τ ρ ω : Nat → Nat) (pm j w : Nat) : Prop := (mj_best φ τ ρ (mj_nu ω j w) pm).testBit j = true
theorem mx_ok_w (H : mx_ok φ τ ρ ω F T tr tw) {tw' : Nat → Int32} {j w : Nat} (hj : j < 7) (hw : w ≤ 20) (h : ∀ k, k < 7 → k ≠ j → tw' k = nI (ω k)) : mx_ok φ τ ρ (mj_nu ω j w) F T tr (upd tw' (nI j).toNatClampNeg (nI w)) := by
  obtain ⟨h1, h2, h3, h4, h5, h6, h7, h8⟩ := H
  refine ⟨h1, h2, h3, h4, h5, h6, fun i hi => ?_, fun i hi => ?_⟩
  · rw [nI_clamp (by omega)]
    by_cases e : i = j
    · subst e; rw [pk_us, mj_nus]
    · rw [pk_un e, mj_nun e]; exact h i hi e
  · have := h8 i hi
    unfold mj_nu
    split <;> omega
theorem mx_pr19 {post : Int32 → SX → Prop} (H : mx_ok φ τ ρ ω F T tr tw) {pm j : Nat} (hm : pm < 128) (hj : j < 7) (hw : ∀ i, pm.testBit i = true → 1 ≤ ω i)
    (h : ∀ (r : Nat) (tw' : Nat → Int32), mj_pr (mj_pB φ τ ρ ω pm j) r → post (nI r) (c, nI pm, R, F, T, V, tr, tw')) :
    ∀ (d w : Nat) (tw' : Nat → Int32), w + d = 21 → 1 ≤ w → (∀ k, k < 7 → k ≠ j → tw' k = nI (ω k)) → (∀ x, 1 ≤ x → x < w → ¬ mj_pB φ τ ρ ω pm j x) →
    wX_price_19 post (nI j) c (nI pm) (d + 1) (nI w) R F T V tr tw' := by
  intro d
  induction d with
  | zero =>
    intro w tw' hd h1 hk hB
    have e : w = 21 := by omega
    subst e
    exact pk_lt 20 21 (fun _ => h 21 tw' ⟨by omega, by omega, fun g => absurd g (by omega), hB⟩) (fun g => absurd g (by omega))
  | succ d ih =>
    intro w tw' hd h1 hk hB
    refine pk_lt 20 w (fun g => absurd g (by omega)) (fun g => ⟨pk_in j 7 hj, nm_e ?_⟩)
    refine mx_best (mx_ok_w H hj g hk) hm (fun i hi => ?_) (mj_best_sp φ τ ρ (mj_nu ω j w) pm) ?_
    · have := hw i hi
      unfold mj_nu
      split <;> omega
    · refine mx_isinj (mj_best_sp φ τ ρ (mj_nu ω j w) pm).1 hj (fun b => br_f (by decide) (h w _ ⟨h1, by omega, fun _ => b, hB⟩)) (fun b => br_t rfl (nm_r (nI_1 w) (ih (w + 1) _ (by omega) (by omega) (fun k hk' ne => ?_) (fun x x1 x2 => ?_))))
      · rw [nI_clamp (by omega), pk_un ne]; exact hk k hk' ne
      · by_cases e : x = w
        · subst e
          intro q
          unfold mj_pB at q
          rw [b] at q; cases q
        · exact hB x x1 (by omega)
theorem mx_ok_r (H : mx_ok φ τ ρ ω F T tr tw) {s x : Nat} (hx : x ≤ 4) {y : Int32} (hy : y = nI x) (hs : s < 12) : mx_ok φ τ (mj_nu ρ s x) ω F T (upd tr (nI s).toNatClampNeg y) tw := by
  obtain ⟨h1, h2, h3, h4, h5, h6, h7, h8⟩ := H
  refine ⟨h1, h2, h3, h4, fun i hi => ?_, fun i hi => ?_, h7, h8⟩
  · rw [nI_clamp (by omega)]
    by_cases e : i = s
    · subst e; rw [pk_us, mj_nus]; exact hy
    · rw [pk_un e, mj_nun e]; exact h5 i hi
  · have := h6 i hi
    unfold mj_nu
    split <;> omega
theorem mx_dec {A : Nat → Int32} {n s : Nat} (h : A (nI s).toNatClampNeg = nI n) (h0 : 0 < n) : A (nI s).toNatClampNeg - 1 = nI (n - 1) := by
  obtain ⟨k, rfl⟩ : ∃ k, n = k + 1 := ⟨n - 1, by omega⟩
  rw [h, nI_pred]; rfl
theorem mx_oc {post : Int32 → SX → Prop} {j m s0 : Nat} (hj : j < 7) (hm : m < 128) (hc : mj_cond φ τ ρ j m s0) (hl : ∀ t, t < s0 → ¬ mj_cond φ τ ρ j m t)
    (h : ∀ tr' : Nat → Int32, mx_ok φ τ (mj_nu ρ s0 (ρ s0 - 1)) ω F T tr' tw → post (nI s0) (c, p, R, F, T, V, tr', tw)) :
    ∀ (d s : Nat) (tr : Nat → Int32), s + d = s0 → mx_ok φ τ ρ ω F T tr tw → wX_occupyFirstSlot_2 post (nI j) (nI m) c p (d + 1) (nI s) R F T V tr tw := by
  intro d
  induction d with
  | zero =>
    intro s tr hd H
    have e : s = s0 := by omega
    subst e
    obtain ⟨hu, h12, h0, hg⟩ := hc
    have H' := H
    obtain ⟨hF, hT, hf, ht, hR, hr, -⟩ := H'
    have f11 := hf j hj
    have t11 := ht j hj
    have r4 := hr s h12
    have u1 := hu.1
    have u2 := hu.2
    refine pk_le 12 s (fun g => absurd g (by omega)) (fun _ => ⟨pk_in j 7 hj, ?_⟩)
    refine pk_lt s (φ j) (fun g => absurd g (by omega)) (fun _ => ⟨pk_in j 7 hj, ?_⟩) rfl (mt_at hF hj) (by omega) (by omega)
    refine pk_lt (τ j) s (fun g => absurd g (by omega)) (fun _ => ?_) (mt_at hT hj) rfl (by omega) (by omega)
    refine br_f (by decide) ⟨pk_in s 12 h12, ?_⟩
    refine pk_le (ρ s) 0 (fun g => absurd g (by omega)) (fun _ => ⟨pk_in s 12 h12, pk_in s 12 h12, nm_e ?_⟩) (mt_at hR h12) rfl (by omega) (by omega)
    have H2 := mx_ok_r H (s := s) (x := ρ s - 1) (by omega) (mx_dec (mt_at hR h12) h0) h12
    exact mx_cp H2 hm (fun _ => br_f (by decide) (h _ H2)) (fun q => absurd hg q)
  | succ d ih =>
    intro s tr hd H
    have h12 : s < 12 := by have := hc.2.1; omega
    have H' := H
    obtain ⟨hF, hT, hf, ht, hR, hr, hW, hw⟩ := H'
    have f11 := hf j hj
    have t11 := ht j hj
    have r4 := hr s h12
    have no := hl s (by omega)
    have nx := ih (s + 1) tr (by omega) H
    refine pk_le 12 s (fun g => absurd g (by omega)) (fun _ => ⟨pk_in j 7 hj, ?_⟩)
    refine pk_lt s (φ j) (fun g => ?_) (fun u1 => ⟨pk_in j 7 hj, ?_⟩) rfl (mt_at hF hj) (by omega) (by omega)
    · exact br_t rfl (nm_r (nI_1 s) nx)
    refine pk_lt (τ j) s (fun g => ?_) (fun u2 => ?_) (mt_at hT hj) rfl (by omega) (by omega)
    · exact br_t rfl (nm_r (nI_1 s) nx)
    refine br_f (by decide) ⟨pk_in s 12 h12, ?_⟩
    refine pk_le (ρ s) 0 (fun g => nm_r (nI_1 s) nx) (fun h0 => ⟨pk_in s 12 h12, pk_in s 12 h12, nm_e ?_⟩) (mt_at hR h12) rfl (by omega) (by omega)
    have H2 := mx_ok_r H (s := s) (x := ρ s - 1) (by omega) (mx_dec (mt_at hR h12) h0) h12
    refine mx_cp H2 hm (fun q => absurd ⟨⟨u1, u2⟩, h12, h0, q⟩ no) (fun _ => br_t rfl ⟨pk_in s 12 h12, pk_in s 12 h12, nm_e (nm_r (nI_1 s) (ih (s + 1) _ (by omega) ?_))⟩)
    refine ⟨hF, hT, hf, ht, fun i hi => ?_, hr, hW, hw⟩
    rw [nI_clamp (by omega)]
    by_cases e : i = s
    · subst e
      rw [pk_us, pk_us, hR i hi]
      obtain ⟨k, hk⟩ : ∃ k, ρ i = k + 1 := ⟨ρ i - 1, by omega⟩
      rw [hk, nI_pred, nI_1]
    · rw [pk_un e, pk_un e]; exact hR i hi
theorem mx_occ {post : Int32 → SX → Prop} (H : mx_ok φ τ ρ ω F T tr tw) {j m s0 : Nat} (hj : j < 7) (hm : m < 128) (hc : mj_cond φ τ ρ j m s0) (hl : ∀ t, t < s0 → ¬ mj_cond φ τ ρ j m t)
    (h : ∀ tr' : Nat → Int32, mx_ok φ τ (mj_nu ρ s0 (ρ s0 - 1)) ω F T tr' tw → post (nI s0) (c, p, R, F, T, V, tr', tw)) :
    wpX_occupyFirstSlot post (c, p, R, F, T, V, tr, tw) (nI j) (nI m) := ⟨s0 + 1, mx_oc hj hm hc hl h s0 0 tr (by omega) H⟩
theorem mx_s21 {post : Int32 → SX → Prop} {o id : Nat} (ho : o < 128) (hid : id < 7) (hb : o.testBit id = true) (hg : mj_G (mj_us φ τ) (mj_pl ρ 12 0) (mj_ms o)) (hr : ∀ s, s < 12 → ρ s ≤ 4)
    (h : ∀ tr' : Nat → Int32, post (nI (mj_slot φ τ ρ o id)) (c, p, R, F, T, V, tr', tw)) :
    ∀ (d j : Nat) (tr : Nat → Int32), j + d = id → mx_ok φ τ (mj_run φ τ ρ o j) ω F T tr tw → wX_slotOf_21 post (nI id) (d + 1) (nI (mj_rest o j)) (nI j) c p R F T V tr tw := by
  intro d
  induction d with
  | zero =>
    intro j tr hd H
    have e : j = id := by omega
    subst e
    have sp := mj_slot_sp (j := j) ho hg hr hb
    refine pk_le j j (fun _ => nm_r (mt_cl _ (mj_rest_lt ho j) j hid) ?_) (fun g => absurd g (by omega))
    exact mx_occ H hid (mj_rest_lt ho (j + 1)) sp.1 sp.2 (fun tr' _ => h tr')
  | succ d ih =>
    intro j tr hd H
    have hj : j < 7 := by omega
    refine pk_le id j (fun g => absurd g (by omega)) (fun _ => mx_isinj (mj_rest_lt ho j) hj (fun b => br_f (by decide) (nm_r (mt_cl _ (mj_rest_lt ho j) j hj) ?_)) (fun b => br_t rfl (nm_r (nI_1 j) ?_)))
    · have e := ((mj_rest_b ho j j).mp b).1
      have sp := mj_slot_sp (j := j) ho hg hr e
      refine mx_occ H hj (mj_rest_lt ho (j + 1)) sp.1 sp.2 (fun tr' H' => nm_r (nI_1 j) (ih (j + 1) tr' (by omega) ?_))
      rw [mj_run_t e]
      exact H'
    · have e : o.testBit j = false := mj_nf fun q => by
        rw [(mj_rest_b ho j j).mpr ⟨q, Nat.le_refl _⟩] at b; cases b
      have n := ih (j + 1) tr (by omega) (by rw [mj_run_f e]; exact H)
      rw [mj_rest_f ho e] at n
      exact n
end
section
/-! the reference's sweep -/
theorem mj_sb_le {a b : Nat} (h : mj_sb a b) : a ≤ b := by
  have : a &&& b = a := Nat.eq_of_testBit_eq fun i => by
    rw [Nat.testBit_and]
    cases x : a.testBit i with
    | true => rw [h i x]; rfl
    | false => rfl
  rw [← this]
  exact Nat.and_le_right
theorem mj_cl_lt2 {m i : Nat} (hm : m < 128) (h : m.testBit i = true) : mj_cl m i < m := by
  have a : mj_cl m i ≤ m := Nat.and_le_left
  have b : mj_cl m i ≠ m := fun e => by
    rw [← e] at h
    exact ((mj_tb_cl hm i i).mp h).2 rfl
  omega
theorem mj_cl_or {x j : Nat} (hx : x < 128) (hj : j < 7) (h : x.testBit j = false) : mj_cl (x ||| 2 ^ j) j = x := by
  apply mj_ms_inj
  rw [mj_ms_cl (mj_or_lt hx hj), mj_ms_or]
  exact mj_e3 h
theorem mj_or_cl {w j : Nat} (hw : w < 128) (h : w.testBit j = true) : mj_cl w j ||| 2 ^ j = w := by
  apply mj_ms_inj
  rw [mj_ms_or, mj_ms_cl hw]
  exact mj_e4 h
def my_tab (ca : Nat → Int32) (P : Nat → Prop) : Prop := ∀ w, w < 128 → (P w ∧ ca w = 1) ∨ (¬ P w ∧ ca w = 0)
theorem my_tab_cg {ca : Nat → Int32} {P Q : Nat → Prop} (h : my_tab ca P) (e : ∀ w, w < 128 → (P w ↔ Q w)) : my_tab ca Q := fun w hw => by
  rw [← e w hw]
  exact h w hw
def my_D (us : Nat → Nat → Prop) (s al : Nat) (P : Nat → Prop) (x j w : Nat) : Prop :=
  P w ∨ ∃ i, w.testBit i = true ∧ al.testBit i = true ∧ us i s ∧ P (mj_cl w i) ∧ (x < mj_cl w i ∨ (mj_cl w i = x ∧ i < j))
theorem my_D_x {us : Nat → Nat → Prop} {s al : Nat} {P : Nat → Prop} {x j : Nat} (hx : x < 128) : my_D us s al P x j x ↔ P x := by
  constructor
  · rintro (h | ⟨i, a, _, _, _, b⟩)
    · exact h
    · have := mj_cl_lt2 hx a
      omega
  · exact Or.inl
theorem my_D_keep {us : Nat → Nat → Prop} {s al : Nat} {P : Nat → Prop} {x j w : Nat} (hw : w < 128) (h : ¬ (w = x ||| 2 ^ j ∧ P x ∧ al.testBit j = true ∧ x.testBit j = false ∧ us j s)) : my_D us s al P x j w ↔ my_D us s al P x (j + 1) w := by
  constructor
  · rintro (a | ⟨i, a, b, d, e, f⟩)
    · exact .inl a
    · exact .inr ⟨i, a, b, d, e, by omega⟩
  · rintro (a | ⟨i, a, b, d, e, f⟩)
    · exact .inl a
    · by_cases g : mj_cl w i = x ∧ i = j
      · obtain ⟨g1, g2⟩ := g
        subst g2
        refine absurd ⟨?_, ?_, b, ?_, d⟩ h
        · rw [← g1]; exact (mj_or_cl hw a).symm
        · rw [← g1]; exact e
        · rw [← g1]
          exact mj_nf fun q => ((mj_tb_cl hw i i).mp q).2 rfl
      · exact .inr ⟨i, a, b, d, e, by omega⟩
theorem my_tab_take {us : Nat → Nat → Prop} {s al : Nat} {P : Nat → Prop} {x j : Nat} {ca : Nat → Int32} (hx : x < 128) (hj : j < 7) (h : my_tab ca (my_D us s al P x j)) (h1 : P x) (h2 : al.testBit j = true) (h3 : x.testBit j = false) (h4 : us j s) :
    my_tab (upd ca (x ||| 2 ^ j) 1) (my_D us s al P x (j + 1)) := by
  intro w hw
  by_cases e : w = x ||| 2 ^ j
  · subst e
    refine .inl ⟨.inr ⟨j, (mj_tb_or x j j).mpr (.inr rfl), h2, h4, ?_, ?_⟩, pk_us⟩
    · rw [mj_cl_or hx hj h3]; exact h1
    · rw [mj_cl_or hx hj h3]; omega
  · rw [pk_un e, ← my_D_keep hw (fun q => e q.1)]
    exact h w hw
section
variable {cp : Int32} {Rm hd Fr To Va lo hi : Nat → Int32} {ρ la et : Nat → Nat} {post : SY → Prop}
def my_ok (la et : Nat → Nat) (lo hi : Nat → Int32) : Prop :=
  (∀ i, i < 7 → lo i = nI (la i)) ∧ (∀ i, i < 7 → hi i = nI (et i)) ∧ (∀ i, i < 7 → la i ≤ 11) ∧ (∀ i, i < 7 → et i ≤ 11)
theorem my_o43 (H : my_ok la et lo hi) {J5 J12 : Int32 → (Nat → Int32) → (Nat → Int32) → (Nat → Int32) → (Nat → Int32) → (Nat → Int32) → (Nat → Int32) → (Nat → Int32) → (Nat → Int32) → Prop} {P : Nat → Prop} {s al x j : Nat} {z : Int32} {ca : Nat → Int32} (hs : s < 12) (hx : x < 128) (hj : j < 7)
    (hP : (P x ∧ ca x = 1) ∨ (¬ P x ∧ ca x = 0))
    (hk : ¬ (P x ∧ ¬ z = 0 ∧ mj_us la et j s) → J12 (nI (j + 1)) Rm hd Fr To Va lo hi ca)
    (ht : P x → ¬ z = 0 → mj_us la et j s → J12 (nI (j + 1)) Rm hd Fr To Va lo hi (upd ca (x ||| 2 ^ j) 1)) :
    wY_onePlace_43 post J5 J12 (nI s) (nI al) (nI x) (nI j) z cp Rm hd Fr To Va lo hi ca := by
  obtain ⟨hl, hh, l11, h11⟩ := H
  have a11 := l11 j hj
  have b11 := h11 j hj
  refine ⟨pk_in x 128 hx, ?_⟩
  rcases hP with ⟨p1, p2⟩ | ⟨p1, p2⟩
  · refine br_f (by rw [nI_clamp (by omega), p2]; decide) (br_c (fun hz => nm_r (nI_1 j) (hk fun q => q.2.1 hz)) (fun hz => ⟨pk_in j 7 hj, ?_⟩))
    refine pk_lt s (la j) (fun g => nm_r (nI_1 j) (hk fun q => by have := q.2.2.1; omega)) (fun g => ⟨pk_in j 7 hj, ?_⟩) rfl (mt_at hl hj) (by omega) (by omega)
    refine pk_lt (et j) s (fun g => nm_r (nI_1 j) (hk fun q => by have := q.2.2.2; omega)) (fun g2 => ⟨?_, ?_⟩) (mt_at hh hj) rfl (by omega) (by omega)
    · rw [mt_or x hx j hj]
      exact pk_in _ 128 (mj_or_lt hx hj)
    · have o8 := mj_or_lt hx hj
      refine nm_r (e' := upd ca (x ||| 2 ^ j) 1) ?_ (nm_r (nI_1 j) (ht p1 hz ⟨g, g2⟩))
      rw [mt_or x hx j hj, nI_clamp (by omega), mt_vn1]
  · exact br_t (by rw [nI_clamp (by omega), p2]) (nm_r (nI_1 j) (hk fun q => p1 q.1))
theorem my_o12 (H : my_ok la et lo hi) {J5 : Int32 → (Nat → Int32) → (Nat → Int32) → (Nat → Int32) → (Nat → Int32) → (Nat → Int32) → (Nat → Int32) → (Nat → Int32) → (Nat → Int32) → Prop} {P : Nat → Prop} {s al x : Nat} (hs : s < 12) (hal : al < 128) (hx : x < 128)
    (h : ∀ ca : Nat → Int32, my_tab ca (my_D (mj_us la et) s al P x 7) → J5 (nI x + (-1)) Rm hd Fr To Va lo hi ca) :
    ∀ (d j : Nat) (ca : Nat → Int32), j + d = 7 → my_tab ca (my_D (mj_us la et) s al P x j) → wY_onePlace_12 post J5 (nI s) (nI al) (nI x) cp (d + 1) (nI j) Rm hd Fr To Va lo hi ca := by
  intro d
  induction d with
  | zero =>
    intro j ca hd' ht
    have e : j = 7 := by omega
    subst e
    exact pk_le 7 7 (fun _ => nm_e (h ca ht)) (fun g => absurd g (by omega))
  | succ d ih =>
    intro j ca hd' ht
    have hj : j < 7 := by omega
    have hP : (P x ∧ ca x = 1) ∨ (¬ P x ∧ ca x = 0) := by
      have := ht x hx
      rw [my_D_x hx] at this
      exact this
    refine pk_le 7 j (fun g => absurd g (by omega)) (fun _ => ?_)
    rw [mt_shr al hal j hj, mt_shr x hx j hj]
    cases ea : al.testBit j with
    | false =>
      refine br_f (by decide) (my_o43 H hs hx hj hP (fun _ => ih (j + 1) ca (by omega) (my_tab_cg ht fun w hw => my_D_keep hw fun q => ?_)) (fun _ q => absurd rfl q))
      have := q.2.2.1
      rw [ea] at this; cases this
    | true =>
      refine br_t (by decide) ?_
      cases ex : x.testBit j with
      | true =>
        refine br_f (by decide) (my_o43 H hs hx hj hP (fun _ => ih (j + 1) ca (by omega) (my_tab_cg ht fun w hw => my_D_keep hw fun q => ?_)) (fun _ q => absurd rfl q))
        have := q.2.2.2.1
        rw [ex] at this; cases this
      | false =>
        refine br_t (by decide) (my_o43 H hs hx hj hP (fun hn => ih (j + 1) ca (by omega) (my_tab_cg ht fun w hw => my_D_keep hw fun q => hn ⟨q.2.1, by decide, q.2.2.2.2⟩)) (fun a _ b => ih (j + 1) _ (by omega) (my_tab_take hx hj ht a ea ex b)))
theorem my_o5 (H : my_ok la et lo hi) {P : Nat → Prop} {s al : Nat} (hs : s < 12) (hal : al < 128)
    (h : ∀ ca : Nat → Int32, my_tab ca (fun w => P w ∨ ∃ i, w.testBit i = true ∧ al.testBit i = true ∧ mj_us la et i s ∧ P (mj_cl w i)) → post (cp, Rm, hd, Fr, To, Va, lo, hi, ca)) :
    ∀ (x : Nat) (ca : Nat → Int32), x < 128 → my_tab ca (my_D (mj_us la et) s al P x 0) → wY_onePlace_5 post (nI s) (nI al) cp (x + 2) (nI x) Rm hd Fr To Va lo hi ca := by
  intro x
  induction x with
  | zero =>
    intro ca hx ht
    refine br_f (by decide) ⟨8, my_o12 H hs hal hx (fun ca' ht' => ?_) 7 0 ca rfl ht⟩
    refine br_t (by decide) (h ca' (my_tab_cg ht' fun w hw => ?_))
    constructor
    · rintro (a | ⟨i, a, b, d, e, _⟩)
      · exact .inl a
      · exact .inr ⟨i, a, b, d, e⟩
    · rintro (a | ⟨i, a, b, d, e⟩)
      · exact .inl a
      · exact .inr ⟨i, a, b, d, e, by have := mj_lt7 hw a; omega⟩
  | succ x ih =>
    intro ca hx ht
    refine br_f (nI_pos (by omega)) ⟨8, my_o12 H hs hal hx (fun ca' ht' => ?_) 7 0 ca rfl ht⟩
    rw [pk_m1]
    refine ih ca' (by omega) (my_tab_cg ht' fun w hw => ?_)
    constructor
    · rintro (a | ⟨i, a, b, d, e, f⟩)
      · exact .inl a
      · exact .inr ⟨i, a, b, d, e, by omega⟩
    · rintro (a | ⟨i, a, b, d, e, f⟩)
      · exact .inl a
      · exact .inr ⟨i, a, b, d, e, by have := mj_lt7 hw a; omega⟩
def my_P (us : Nat → Nat → Prop) (al : Nat) (L : List Nat) (w : Nat) : Prop := mj_sb w al ∧ mj_G us L (mj_ms w)
theorem my_P_app {us : Nat → Nat → Prop} {al s : Nat} {L : List Nat} {w : Nat} (hw : w < 128) : (my_P us al L w ∨ ∃ i, w.testBit i = true ∧ al.testBit i = true ∧ us i s ∧ my_P us al L (mj_cl w i)) ↔ my_P us al (L ++ [s]) w := by
  unfold my_P
  rw [mj_app]
  constructor
  · rintro (⟨a, b⟩ | ⟨i, a, b, d, e, f⟩)
    · exact ⟨a, .inl b⟩
    · refine ⟨fun k hk => ?_, .inr ⟨i, a, d, ?_⟩⟩
      · by_cases g : k = i
        · rw [g]; exact b
        · exact e k ((mj_tb_cl hw i k).mpr ⟨hk, g⟩)
      · rw [← mj_ms_cl hw]; exact f
  · rintro ⟨a, (b | ⟨i, b, d, e⟩)⟩
    · exact .inl ⟨a, b⟩
    · refine .inr ⟨i, b, a i b, d, fun k hk => a k ((mj_tb_cl hw i k).mp hk).1, ?_⟩
      rw [mj_ms_cl hw]; exact e
theorem my_one (H : my_ok la et lo hi) {L : List Nat} {s al : Nat} {ca : Nat → Int32} (hs : s < 12) (hal : al < 128) (ht : my_tab ca (my_P (mj_us la et) al L))
    (h : ∀ ca' : Nat → Int32, my_tab ca' (my_P (mj_us la et) al (L ++ [s])) → post (cp, Rm, hd, Fr, To, Va, lo, hi, ca')) :
    wpY_onePlace post (cp, Rm, hd, Fr, To, Va, lo, hi, ca) (nI s) (nI al) := by
  refine nm_r (mt_127 al hal) ⟨al + 2, my_o5 H (P := my_P (mj_us la et) al L) hs hal (fun ca' ht' => h ca' (my_tab_cg ht' fun w hw => my_P_app hw)) al ca hal (my_tab_cg ht fun w hw => ?_)⟩
  constructor
  · exact Or.inl
  · rintro (a | ⟨i, a, b, d, e, f⟩)
    · exact a
    · have := mj_sb_le e.1
      omega
theorem my_s40 (H : my_ok la et lo hi) {J32 : Int32 → Int32 → (Nat → Int32) → (Nat → Int32) → (Nat → Int32) → (Nat → Int32) → (Nat → Int32) → (Nat → Int32) → (Nat → Int32) → (Nat → Int32) → Prop} {s al : Nat} (hR : ∀ s, s < 12 → Rm s = nI (ρ s)) (hr : ∀ s, s < 12 → ρ s ≤ 4) (hs : s < 12) (hal : al < 128) :
    ∀ (k q : Nat) (L : List Nat) (ca : Nat → Int32), q + k = ρ s → my_tab ca (my_P (mj_us la et) al L) →
    (∀ ca' : Nat → Int32, my_tab ca' (my_P (mj_us la et) al (L ++ List.replicate k s)) → J32 (nI (s + 1)) cp Rm hd Fr To Va lo hi ca') →
    wY_sweep_40 post J32 (nI al) (nI s) (k + 1) (nI q) cp Rm hd Fr To Va lo hi ca := by
  have r4 := hr s hs
  intro k
  induction k with
  | zero =>
    intro q L ca hq ht h
    refine ⟨pk_in s 12 hs, pk_le (ρ s) q (fun _ => nm_r (nI_1 s) (h ca ?_)) (fun g => absurd g (by omega)) (mt_at hR hs) rfl (by omega) (by omega)⟩
    rw [List.replicate_zero, List.append_nil]
    exact ht
  | succ k ih =>
    intro q L ca hq ht h
    refine ⟨pk_in s 12 hs, pk_le (ρ s) q (fun g => absurd g (by omega)) (fun _ => ?_) (mt_at hR hs) rfl (by omega) (by omega)⟩
    refine pk_le 4 q (fun g => absurd g (by omega)) (fun _ => ?_)
    refine my_one H hs hal ht (fun ca' ht' => nm_r (nI_1 q) (ih (q + 1) (L ++ [s]) ca' (by omega) ht' fun ca2 ht2 => h ca2 ?_))
    rw [List.append_assoc] at ht2
    exact ht2
theorem my_s32 (H : my_ok la et lo hi) {al : Nat} (hR : ∀ s, s < 12 → Rm s = nI (ρ s)) (hr : ∀ s, s < 12 → ρ s ≤ 4) (hal : al < 128) :
    ∀ (d s : Nat) (L : List Nat) (ca : Nat → Int32), s + d = 12 → my_tab ca (my_P (mj_us la et) al L) →
    (∀ ca' : Nat → Int32, my_tab ca' (my_P (mj_us la et) al (L ++ mj_pl ρ d s)) → post (cp, Rm, hd, Fr, To, Va, lo, hi, ca')) →
    wY_sweep_32 post (nI al) (d + 1) (nI s) cp Rm hd Fr To Va lo hi ca := by
  intro d
  induction d with
  | zero =>
    intro s L ca hd' ht h
    refine pk_le 12 s (fun _ => h ca ?_) (fun g => absurd g (by omega))
    rw [mj_pl, List.append_nil]
    exact ht
  | succ d ih =>
    intro s L ca hd' ht h
    refine pk_le 12 s (fun g => absurd g (by omega)) (fun _ => ⟨ρ s + 1, my_s40 H hR hr (by omega) hal (ρ s) 0 L ca (by omega) ht fun ca' ht' => ih (s + 1) _ ca' (by omega) ht' fun ca2 ht2 => h ca2 ?_⟩)
    rw [List.append_assoc] at ht2
    exact ht2
theorem my_P0 {us : Nat → Nat → Prop} {al w : Nat} : my_P us al [] w ↔ w = 0 := by
  constructor
  · rintro ⟨_, h⟩
    exact Nat.eq_of_testBit_eq fun i => by rw [Nat.zero_testBit]; exact h i
  · rintro rfl
    exact ⟨fun i h => by simp at h, fun i => by simp [mj_ms]⟩
theorem my_s2 (H : my_ok la et lo hi) {al : Nat} (hR : ∀ s, s < 12 → Rm s = nI (ρ s)) (hr : ∀ s, s < 12 → ρ s ≤ 4) (hal : al < 128)
    (h : ∀ ca' : Nat → Int32, my_tab ca' (my_P (mj_us la et) al (mj_pl ρ 12 0)) → post (cp, Rm, hd, Fr, To, Va, lo, hi, ca')) :
    ∀ (d x : Nat) (ca : Nat → Int32), x + d = 128 → (∀ w, w < x → (w = 0 ∧ ca w = 1) ∨ (¬ w = 0 ∧ ca w = 0)) →
    wY_sweep_2 post (nI al) cp (d + 1) (nI x) Rm hd Fr To Va lo hi ca := by
  intro d
  induction d with
  | zero =>
    intro x ca hd' ht
    have e : x = 128 := by omega
    subst e
    refine pk_le 128 128 (fun _ => ⟨13, my_s32 H hR hr hal 12 0 [] ca rfl (fun w hw => ?_) h⟩) (fun g => absurd g (by omega))
    rw [my_P0]
    exact ht w hw
  | succ d ih =>
    intro x ca hd' ht
    refine pk_le 128 x (fun g => absurd g (by omega)) (fun _ => pk_eq x 0 (fun e => ⟨pk_in x 128 (by omega), nm_e (nm_r (nI_1 x) (ih (x + 1) _ (by omega) (lt_s (fun w hw => ?_) (.inl ⟨e, ?_⟩))))⟩) (fun e => ⟨pk_in x 128 (by omega), nm_e (nm_r (nI_1 x) (ih (x + 1) _ (by omega) (lt_s (fun w hw => ?_) (.inr ⟨e, ?_⟩))))⟩))
    · rw [nI_clamp (by omega), pk_un (by omega)]; exact ht w hw
    · rw [nI_clamp (by omega), pk_us, mt_vn1]
    · rw [nI_clamp (by omega), pk_un (by omega)]; exact ht w hw
    · rw [nI_clamp (by omega), pk_us, mt_vn0]
theorem my_sweep (H : my_ok la et lo hi) {al : Nat} {ca : Nat → Int32} (hR : ∀ s, s < 12 → Rm s = nI (ρ s)) (hr : ∀ s, s < 12 → ρ s ≤ 4) (hal : al < 128)
    (h : ∀ ca' : Nat → Int32, my_tab ca' (my_P (mj_us la et) al (mj_pl ρ 12 0)) → post (cp, Rm, hd, Fr, To, Va, lo, hi, ca')) :
    wpY_sweep post (cp, Rm, hd, Fr, To, Va, lo, hi, ca) (nI al) := ⟨129, my_s2 H hR hr hal h 128 0 ca rfl lt_0⟩
end
end
section
/-! the reference's other methods -/
def my_hb (m : Nat) : Nat → Int32 := fun i => nI (if m.testBit i = true then 1 else 0)
def my_OK (φ τ ρ ω : Nat → Nat) (Rm Fr To Va : Nat → Int32) : Prop :=
  (∀ s, s < 12 → Rm s = nI (ρ s)) ∧ (∀ s, s < 12 → ρ s ≤ 4) ∧ (∀ i, i < 7 → Fr i = nI (φ i)) ∧ (∀ i, i < 7 → To i = nI (τ i)) ∧ (∀ i, i < 7 → φ i ≤ 11) ∧ (∀ i, i < 7 → τ i ≤ 11) ∧
  (∀ i, i < 7 → Va i = nI (ω i)) ∧ (∀ i, i < 7 → ω i ≤ 20)
theorem mt_jb : ∀ m : Nat, m < 128 → ∀ j : Nat, j < 7 → (m.testBit j = true → nI (m % 2 ^ j) ||| ((1 : Int32) <<< (nI j &&& 31)) = nI (m % 2 ^ (j + 1))) ∧ (m.testBit j = false → nI (m % 2 ^ j) ||| 0 = nI (m % 2 ^ (j + 1))) := by decide +kernel
theorem my_hb0 (m : Nat) {j : Nat} (hj : j < 7) (h : m.testBit j = false) : my_hb m (nI j).toNatClampNeg = 0 := by
  rw [nI_clamp (by omega)]
  show nI (if m.testBit j = true then 1 else 0) = 0
  rw [h]; decide
theorem my_hb1 (m : Nat) {j : Nat} (hj : j < 7) (h : m.testBit j = true) : ¬ my_hb m (nI j).toNatClampNeg = 0 := by
  rw [nI_clamp (by omega)]
  show ¬ nI (if m.testBit j = true then 1 else 0) = 0
  rw [h]; decide
section
variable {cp : Int32} {Rm hd Fr To Va lo hi ca : Nat → Int32} {φ τ ρ ω : Nat → Nat} {m : Nat}
theorem my_there {post : Int32 → Prop} (x : Int32) (h1 : ∀ j, j < 7 → x = nI j → m.testBit j = true → post 1) (h0 : (∀ j, j < 7 → x = nI j → m.testBit j = false) → post 0) :
    wpY_there post (cp, Rm, my_hb m, Fr, To, Va, lo, hi, ca) x := by
  by_cases hx : x < 0
  · refine br_t hx (h0 fun j hj e => ?_)
    subst e
    exact absurd hx (nI_pos (by omega))
  · obtain ⟨j, hj, rfl⟩ := nI_of hx
    refine br_f hx (pk_le 7 j (fun g => h0 fun i hi e => ?_) (fun g => ⟨pk_in j 7 g, ?_⟩))
    · rw [nI_eq hj (by omega)] at e
      omega
    · cases b : m.testBit j with
      | true => exact br_f (my_hb1 m g b) (h1 j g rfl b)
      | false =>
        refine br_t (my_hb0 m g b) (h0 fun i hi e => ?_)
        rw [nI_eq hj (by omega)] at e
        rw [← e]; exact b
theorem my_j4 {post : Int32 → Prop} (hm : m < 128) (h : post (nI m)) : ∀ d i : Nat, i + d = 7 → wY_jobs_4 post cp Rm (my_hb m) Fr To Va lo hi ca (d + 1) (nI (m % 2 ^ i)) (nI i) := by
  intro d
  induction d with
  | zero =>
    intro i hd'
    have e : i = 7 := by omega
    subst e
    refine pk_le 7 7 (fun _ => ?_) (fun g => absurd g (by omega))
    rw [Nat.mod_eq_of_lt (show m < 2 ^ 7 from hm)]
    exact h
  | succ d ih =>
    intro i hd'
    have hi : i < 7 := by omega
    have n := ih (i + 1) (by omega)
    have t := mt_jb m hm i hi
    refine pk_le 7 i (fun g => absurd g (by omega)) (fun _ => ⟨pk_in i 7 hi, ?_⟩)
    cases b : m.testBit i with
    | true => exact br_f (my_hb1 m hi b) (nm_r (t.1 b) (nm_r (nI_1 i) n))
    | false => exact br_t (my_hb0 m hi b) (nm_r (t.2 b) (nm_r (nI_1 i) n))
theorem my_jobs {post : Int32 → Prop} (hm : m < 128) (h : post (nI m)) : wpY_jobs post (cp, Rm, my_hb m, Fr, To, Va, lo, hi, ca) := by
  refine ⟨8, ?_⟩
  have := my_j4 (cp := cp) (Rm := Rm) (Fr := Fr) (To := To) (Va := Va) (lo := lo) (hi := hi) (ca := ca) hm h 7 0 rfl
  rw [Nat.pow_zero, Nat.mod_one] at this
  exact this
theorem my_ask2 {post : SY → Prop} (h : ∀ lo' hi' : Nat → Int32, (∀ i, i < 7 → lo' i = Fr i) → (∀ i, i < 7 → hi' i = To i) → post (cp, Rm, hd, Fr, To, Va, lo', hi', ca)) :
    ∀ (d i : Nat) (lo hi : Nat → Int32), i + d = 7 → (∀ k, k < i → lo k = Fr k) → (∀ k, k < i → hi k = To k) → wY_ask_2 post cp (d + 1) (nI i) Rm hd Fr To Va lo hi ca := by
  intro d
  induction d with
  | zero =>
    intro i lo hi hd' h1 h2
    have e : i = 7 := by omega
    subst e
    exact pk_le 7 7 (fun _ => h lo hi h1 h2) (fun g => absurd g (by omega))
  | succ d ih =>
    intro i lo hi hd' h1 h2
    have hi' : i < 7 := by omega
    refine pk_le 7 i (fun g => absurd g (by omega)) (fun _ => ⟨pk_in i 7 hi', pk_in i 7 hi', nm_e ⟨pk_in i 7 hi', pk_in i 7 hi', nm_e (nm_r (nI_1 i) (ih (i + 1) _ _ (by omega) (lt_s (fun k hk => ?_) ?_) (lt_s (fun k hk => ?_) ?_)))⟩⟩)
    · rw [nI_clamp (by omega), pk_un (by omega)]; exact h1 k hk
    · rw [nI_clamp (by omega), pk_us]
    · rw [nI_clamp (by omega), pk_un (by omega)]; exact h2 k hk
    · rw [nI_clamp (by omega), pk_us]
theorem my_ask {post : SY → Prop} (h : ∀ lo' hi' : Nat → Int32, (∀ i, i < 7 → lo' i = Fr i) → (∀ i, i < 7 → hi' i = To i) → post (cp, Rm, hd, Fr, To, Va, lo', hi', ca)) :
    wpY_ask post (cp, Rm, hd, Fr, To, Va, lo, hi, ca) := ⟨8, my_ask2 h 7 0 lo hi rfl lt_0 lt_0⟩
theorem my_w4 {post : Int32 → Prop} (hV : ∀ i, i < 7 → Va i = nI (ω i)) {a : Nat} (ha : a < 128) (h : post (nI (mj_sm ω (mj_ms a) 7))) :
    ∀ d i : Nat, i + d = 7 → wY_worthOf_4 post (nI a) cp Rm hd Fr To Va lo hi ca (d + 1) (nI (mj_sm ω (mj_ms a) i)) (nI i) := by
  intro d
  induction d with
  | zero =>
    intro i hd'
    have e : i = 7 := by omega
    subst e
    exact pk_le 7 7 (fun _ => h) (fun g => absurd g (by omega))
  | succ d ih =>
    intro i hd'
    have hi' : i < 7 := by omega
    have n := ih (i + 1) (by omega)
    refine pk_le 7 i (fun g => absurd g (by omega)) (fun _ => ?_)
    rw [mt_shr a ha i hi']
    cases b : a.testBit i with
    | true =>
      refine br_t (by decide) ⟨pk_in i 7 hi', nm_r ?_ (nm_r (nI_1 i) n)⟩
      rw [mt_at hV hi', nI_add, mj_sm]
      simp [mj_ms, b]
    | false =>
      refine br_f (by decide) (nm_r ?_ (nm_r (nI_1 i) n))
      rw [Int32.add_zero, mj_sm]
      simp [mj_ms, b]
theorem my_worth {post : Int32 → Prop} (hV : ∀ i, i < 7 → Va i = nI (ω i)) {a : Nat} (ha : a < 128) (h : post (nI (mj_sm ω (mj_ms a) 7))) :
    wpY_worthOf post (cp, Rm, hd, Fr, To, Va, lo, hi, ca) (nI a) := ⟨8, my_w4 hV ha h 7 0 rfl⟩
theorem mj_sm_b {ω : Nat → Nat} (h : ∀ i, i < 7 → ω i ≤ 20) (W : Nat → Bool) : ∀ n : Nat, n ≤ 7 → mj_sm ω W n ≤ 20 * n
  | 0, _ => Nat.le_refl _
  | n + 1, hn => by
    have a := mj_sm_b h W n (by omega)
    have b := h n (by omega)
    rw [mj_sm]
    split <;> omega
theorem my_b34 {post : Int32 → Prop} {a b : Nat} (ha : a < 128) (hb : b < 128) : ∀ d j : Nat, j + d = 7 → (mj_rv b d < mj_rv a d → post 1) → (mj_rv a d ≤ mj_rv b d → post 0) →
    wY_before_34 post (nI a) (nI b) cp Rm hd Fr To Va lo hi ca (d + 1) (nI j) := by
  intro d
  induction d with
  | zero =>
    intro j hd' h1 h0
    exact pk_le 7 j (fun _ => h0 (Nat.le_refl _)) (fun g => absurd g (by omega))
  | succ d ih =>
    intro j hd' h1 h0
    have hj : j < 7 := by omega
    have e : 6 - d = j := by omega
    rw [mj_rv, mj_rv, e] at h1 h0
    have n := ih (j + 1) (by omega)
    have la := mj_rv_lt a d
    have lb := mj_rv_lt b d
    refine pk_le 7 j (fun g => absurd g (by omega)) (fun _ => ?_)
    rw [mt_shr a ha j hj, mt_shr b hb j hj]
    cases x : a.testBit j <;> cases y : b.testBit j <;> simp only [x, y, if_true, if_false, Bool.false_eq_true] at h1 h0 ⊢
    · exact br_t (by trivial) (nm_r (nI_1 j) (n (fun g => h1 (by omega)) (fun g => h0 (by omega))))
    · exact br_f (by decide) (br_f (by decide) (h0 (by omega)))
    · exact br_f (by decide) (br_t (by decide) (h1 (by omega)))
    · exact br_t (by trivial) (nm_r (nI_1 j) (n (fun g => h1 (by omega)) (fun g => h0 (by omega))))
theorem my_before {post : Int32 → Prop} (hV : ∀ i, i < 7 → Va i = nI (ω i)) (hw : ∀ i, i < 7 → ω i ≤ 20) {a b : Nat} (ha : a < 128) (hb : b < 128)
    (h1 : mj_sm (mj_k ω) (mj_ms b) 7 < mj_sm (mj_k ω) (mj_ms a) 7 → post 1) (h0 : mj_sm (mj_k ω) (mj_ms a) 7 ≤ mj_sm (mj_k ω) (mj_ms b) 7 → post 0) :
    wpY_before post (cp, Rm, hd, Fr, To, Va, lo, hi, ca) (nI a) (nI b) := by
  rw [mj_key, mj_key] at h1 h0
  have la := mj_rv_lt a 7
  have lb := mj_rv_lt b 7
  have sa := mj_sm_b hw (mj_ms a) 7 (Nat.le_refl _)
  have sb := mj_sm_b hw (mj_ms b) 7 (Nat.le_refl _)
  unfold wpY_before
  refine my_worth hV ha (my_worth hV hb ?_)
  refine pk_eq (mj_sm ω (mj_ms a) 7) (mj_sm ω (mj_ms b) 7) (fun e => ⟨8, my_b34 ha hb 7 0 rfl (fun g => h1 (by omega)) (fun g => h0 (by omega))⟩) (fun e => ?_) rfl rfl (by omega) (by omega)
  exact pk_le (mj_sm ω (mj_ms a) 7) (mj_sm ω (mj_ms b) 7) (fun g => h0 (by omega)) (fun g => h1 (by omega)) rfl rfl (by omega) (by omega)
theorem my_c18 {post : Int32 → SY → Prop} (H : my_OK φ τ ρ ω Rm Fr To Va) {us : Nat → Nat → Prop} {L : List Nat} {o : Nat} (ho : mj_opt us L (mj_k ω) m o) (ht : my_tab ca (my_P us m L))
    (h : post (nI o) (cp, Rm, hd, Fr, To, Va, lo, hi, ca)) :
    ∀ d x b : Nat, x + d = 128 → b < x → my_P us m L b → (∀ w, w < x → my_P us m L w → mj_sm (mj_k ω) (mj_ms w) 7 ≤ mj_sm (mj_k ω) (mj_ms b) 7) →
    wY_chosen_18 post cp Rm hd Fr To Va lo hi ca (d + 1) (nI b) (nI x) := by
  obtain ⟨hR, hr, hF, hT, hf, ht', hV, hw⟩ := H
  intro d
  induction d with
  | zero =>
    intro x b hd' hb hP hmx
    refine pk_le 128 x (fun _ => ?_) (fun g => absurd g (by omega))
    have e : b = o := mj_opt_u ⟨by omega, hP.1, hP.2, fun w hw a c => hmx w (by omega) ⟨a, c⟩⟩ ho
    rw [e]
    exact h
  | succ d ih =>
    intro x b hd' hb hP hmx
    have hx : x < 128 := by omega
    refine pk_le 128 x (fun g => absurd g (by omega)) (fun _ => ⟨pk_in x 128 hx, ?_⟩)
    rcases ht x hx with ⟨p1, p2⟩ | ⟨p1, p2⟩
    · refine br_f (by rw [nI_clamp (by omega), p2]; decide) (my_before hV hw hx (by omega) (fun g => br_f (by decide) (nm_r (nI_1 x) (ih (x + 1) x (by omega) (by omega) p1 (lt_s (fun w hw q => ?_) fun _ => Nat.le_refl _)))) (fun g => br_t rfl (nm_r (nI_1 x) (ih (x + 1) b (by omega) (by omega) hP (lt_s hmx fun _ => g)))))
      have := hmx w hw q
      omega
    · exact br_t (by rw [nI_clamp (by omega), p2]) (nm_r (nI_1 x) (ih (x + 1) b (by omega) (by omega) hP (lt_s hmx fun q => absurd q p1)))
theorem my_chosen {post : Int32 → SY → Prop} (H : my_OK φ τ ρ ω Rm Fr To Va) (hm : m < 128)
    (h : ∀ lo' hi' ca' : Nat → Int32, (∀ i, i < 7 → lo' i = nI (φ i)) → (∀ i, i < 7 → hi' i = nI (τ i)) → post (nI (mj_best φ τ ρ ω m)) (cp, Rm, my_hb m, Fr, To, Va, lo', hi', ca')) :
    wpY_chosen post (cp, Rm, my_hb m, Fr, To, Va, lo, hi, ca) := by
  have H' := H
  obtain ⟨hR, hr, hF, hT, hf, ht, hV, hw⟩ := H'
  unfold wpY_chosen
  dsimp only
  refine my_ask fun lo' hi' h1 h2 => ?_
  have h1' : ∀ i, i < 7 → lo' i = nI (φ i) := fun i hi => (h1 i hi).trans (hF i hi)
  have h2' : ∀ i, i < 7 → hi' i = nI (τ i) := fun i hi => (h2 i hi).trans (hT i hi)
  refine my_jobs hm ?_
  refine my_sweep (la := φ) (et := τ) ⟨h1', h2', hf, ht⟩ hR hr hm fun ca' tb => ?_
  refine ⟨128, my_c18 H (mj_best_sp φ τ ρ ω m) tb (h lo' hi' ca' h1' h2') 127 1 0 rfl (by omega) ?_ (fun w hw' _ => ?_)⟩
  · exact ⟨fun i q => by simp at q, mj_G0 _ _ (fun i => by simp [mj_ms]) _⟩
  · have e : w = 0 := by omega
    rw [e]; exact Nat.le_refl _
theorem my_total {post : Int32 → SY → Prop} (H : my_OK φ τ ρ ω Rm Fr To Va) (hm : m < 128)
    (h : ∀ lo' hi' ca' : Nat → Int32, post (nI (mj_sm ω (mj_ms (mj_best φ τ ρ ω m)) 7)) (cp, Rm, my_hb m, Fr, To, Va, lo', hi', ca')) :
    wpY_total post (cp, Rm, my_hb m, Fr, To, Va, lo, hi, ca) := by
  unfold wpY_total
  dsimp only
  exact my_chosen H hm fun lo' hi' ca' _ _ => my_worth H.2.2.2.2.2.2.1 (mj_best_sp φ τ ρ ω m).1 (h lo' hi' ca')
end
end
section
/-! the reference's price, slots, bring; the component's least free number -/
section
variable {cp : Int32} {Rm hd Fr To Va lo hi ca : Nat → Int32} {φ τ ρ ω : Nat → Nat} {m : Nat}
theorem my_OK_w (H : my_OK φ τ ρ ω Rm Fr To Va) {Va' : Nat → Int32} {j w : Nat} (hj : j < 7) (hw : w ≤ 20) (h : ∀ k, k ≠ j → Va' k = Va k) : my_OK φ τ ρ (mj_nu ω j w) Rm Fr To (upd Va' (nI j).toNatClampNeg (nI w)) := by
  obtain ⟨h1, h2, h3, h4, h5, h6, h7, h8⟩ := H
  refine ⟨h1, h2, h3, h4, h5, h6, fun i hi => ?_, fun i hi => ?_⟩
  · rw [nI_clamp (by omega)]
    by_cases e : i = j
    · subst e; rw [pk_us, mj_nus]
    · rw [pk_un e, mj_nun e, h i e]; exact h7 i hi
  · have := h8 i hi
    unfold mj_nu
    split <;> omega
theorem my_OK_r (H : my_OK φ τ ρ ω Rm Fr To Va) {s x : Nat} (hx : x ≤ 4) {y : Int32} (hy : y = nI x) (hs : s < 12) : my_OK φ τ (mj_nu ρ s x) ω (upd Rm (nI s).toNatClampNeg y) Fr To Va := by
  obtain ⟨h1, h2, h3, h4, h5, h6, h7, h8⟩ := H
  refine ⟨fun i hi => ?_, fun i hi => ?_, h3, h4, h5, h6, h7, h8⟩
  · rw [nI_clamp (by omega)]
    by_cases e : i = s
    · subst e; rw [pk_us, mj_nus]; exact hy
    · rw [pk_un e, mj_nun e]; exact h1 i hi
  · have := h2 i hi
    unfold mj_nu
    split <;> omega
theorem my_pr24 {post : Int32 → SY → Prop} (H : my_OK φ τ ρ ω Rm Fr To Va) {j r0 : Nat} (hm : m < 128) (hj : j < 7) (hr0 : mj_pr (mj_pB φ τ ρ ω m j) r0)
    (h : ∀ lo' hi' ca' : Nat → Int32, post (nI r0) (cp, Rm, my_hb m, Fr, To, Va, lo', hi', ca')) :
    ∀ (w r : Nat) (Va' lo hi ca : Nat → Int32), w ≤ 20 → (∀ k, k ≠ j → Va' k = Va k) → w < r → r ≤ 21 → (r ≤ 20 → mj_pB φ τ ρ ω m j r) → (∀ x, w < x → x < r → ¬ mj_pB φ τ ρ ω m j x) →
    wY_price_24 post (nI j) (Va j) (w + 1) (nI r) (nI w) cp Rm (my_hb m) Fr To Va' lo hi ca := by
  intro w
  induction w with
  | zero =>
    intro r Va' lo hi ca hw hk h1 h2 h3 h4
    have e : r = r0 := mj_pr_u (B := mj_pB φ τ ρ ω m j) ⟨by omega, h2, h3, fun x a b => h4 x (by omega) b⟩ hr0
    subst e
    refine pk_lt 0 1 (fun _ => ⟨pk_in j 7 hj, nm_r (e' := Va) ?_ (h lo hi ca)⟩) (fun g => absurd g (by omega))
    rw [nI_clamp (by omega)]
    funext k
    by_cases e : k = j
    · subst e; exact pk_us
    · rw [pk_un e]; exact hk k e
  | succ w ih =>
    intro r Va' lo hi ca hw hk h1 h2 h3 h4
    have hk' : ∀ k, k ≠ j → upd Va' (nI j).toNatClampNeg (nI (w + 1)) k = Va k := fun k e => by
      rw [nI_clamp (by omega), pk_un e]; exact hk k e
    refine pk_lt (w + 1) 1 (fun g => absurd g (by omega)) (fun _ => ⟨pk_in j 7 hj, nm_e ?_⟩)
    refine my_chosen (my_OK_w H hj hw hk) hm fun lo' hi' ca' _ _ => ?_
    dsimp only
    rw [mt_shr _ (mj_best_sp φ τ ρ (mj_nu ω j (w + 1)) m).1 j hj]
    cases b : (mj_best φ τ ρ (mj_nu ω j (w + 1)) m).testBit j with
    | true => exact br_t (by decide) (nm_r (pk_m1 w) (ih (w + 1) _ lo' hi' ca' (by omega) hk' (by omega) (by omega) (fun _ => b) (fun x a c => absurd c (by omega))))
    | false =>
      refine br_f (by decide) (nm_r (pk_m1 w) (ih r _ lo' hi' ca' (by omega) hk' (by omega) h2 h3 (fun x a c => ?_)))
      by_cases e : x = w + 1
      · subst e
        intro q
        unfold mj_pB at q
        rw [b] at q; cases q
      · exact h4 x (by omega) c
/-- the windows of the reference while the jobs below j are pinned -/
noncomputable def my_la (φ τ ρ : Nat → Nat) (o : Nat) (f : Nat → Nat) (j : Nat) : Nat → Nat := fun i => if i < j ∧ o.testBit i = true then mj_slot φ τ ρ o i else f i
theorem my_la_0 {f : Nat → Nat} {o : Nat} : my_la φ τ ρ o f 0 = f := by
  funext i
  unfold my_la
  rw [if_neg (fun q => absurd q.1 (by omega))]
theorem my_la_t {f : Nat → Nat} {o j : Nat} (h : o.testBit j = true) : mj_nu (my_la φ τ ρ o f j) j (mj_slot φ τ ρ o j) = my_la φ τ ρ o f (j + 1) := by
  funext i
  unfold mj_nu my_la
  by_cases e : i = j
  · subst e
    rw [if_pos rfl, if_pos ⟨by omega, h⟩]
  · rw [if_neg e]
    by_cases g : i < j ∧ o.testBit i = true
    · rw [if_pos g, if_pos ⟨by omega, g.2⟩]
    · rw [if_neg g, if_neg (fun q => g ⟨by omega, q.2⟩)]
theorem my_la_f {f : Nat → Nat} {o j : Nat} (h : o.testBit j = false) : my_la φ τ ρ o f (j + 1) = my_la φ τ ρ o f j := by
  funext i
  unfold my_la
  by_cases e : i = j
  · subst e
    rw [if_neg (fun q => by have := q.2; rw [h] at this; cases this), if_neg (fun q => absurd q.1 (by omega))]
  · by_cases g : i < j ∧ o.testBit i = true
    · rw [if_pos g, if_pos ⟨by omega, g.2⟩]
    · rw [if_neg g, if_neg (fun q => g ⟨by omega, q.2⟩)]
theorem my_la_us {o j s : Nat} (ho : o < 128) : mj_G (mj_us (mj_nu (my_la φ τ ρ o φ j) j s) (mj_nu (my_la φ τ ρ o τ j) j s)) (mj_pl ρ 12 0) (mj_ms o) ↔ mj_G (fun i t => if i < j then t = mj_slot φ τ ρ o i else if i = j then t = s else mj_us φ τ i t) (mj_pl ρ 12 0) (mj_ms o) := by
  have e : ∀ i t, mj_ms o i = true → (mj_us (mj_nu (my_la φ τ ρ o φ j) j s) (mj_nu (my_la φ τ ρ o τ j) j s) i t ↔ (if i < j then t = mj_slot φ τ ρ o i else if i = j then t = s else mj_us φ τ i t)) := by
    intro i t hi
    have hi : o.testBit i = true := hi
    unfold mj_us mj_nu my_la
    by_cases g : i < j
    · have g2 : ¬ i = j := by omega
      rw [if_neg g2, if_neg g2, if_pos ⟨g, hi⟩, if_pos ⟨g, hi⟩, if_pos g]
      omega
    · by_cases g2 : i = j
      · rw [if_pos g2, if_pos g2, if_neg g, if_pos g2]
        omega
      · rw [if_neg g2, if_neg g2, if_neg (fun q => g q.1), if_neg (fun q => g q.1), if_neg g, if_neg g2]
  exact ⟨mj_cg _ _ fun i t hi _ hu => (e i t hi).mp hu, mj_cg _ _ fun i t hi _ hu => (e i t hi).mpr hu⟩
theorem my_ok_p {la et : Nat → Nat} {j s : Nat} (hj : j < 7) (hs : s ≤ 11)
    (h : ∀ i, i < 7 → i ≠ j → lo i = nI (la i) ∧ hi i = nI (et i) ∧ la i ≤ 11 ∧ et i ≤ 11) : my_ok (mj_nu la j s) (mj_nu et j s) (upd lo (nI j).toNatClampNeg (nI s)) (upd hi (nI j).toNatClampNeg (nI s)) := by
  rw [nI_clamp (by omega)]
  refine ⟨fun i hi => ?_, fun i hi => ?_, fun i hi => ?_, fun i hi => ?_⟩ <;> by_cases e : i = j
  · subst e; rw [pk_us, mj_nus]
  · rw [pk_un e, mj_nun e]; exact (h i hi e).1
  · subst e; rw [pk_us, mj_nus]
  · rw [pk_un e, mj_nun e]; exact (h i hi e).2.1
  · subst e; rw [mj_nus]; exact hs
  · rw [mj_nun e]; exact (h i hi e).2.2.1
  · subst e; rw [mj_nus]; exact hs
  · rw [mj_nun e]; exact (h i hi e).2.2.2
theorem my_se7 {post : Int32 → SY → Prop} (H : my_OK φ τ ρ ω Rm Fr To Va) {o j : Nat} (ho : o < 128) (hj : j < 7) (hb : o.testBit j = true) (hg : mj_G (mj_us φ τ) (mj_pl ρ 12 0) (mj_ms o))
    (h : ∀ lo' hi' ca' : Nat → Int32, my_ok (my_la φ τ ρ o φ (j + 1)) (my_la φ τ ρ o τ (j + 1)) lo' hi' → post (nI (mj_slot φ τ ρ o j)) (cp, Rm, hd, Fr, To, Va, lo', hi', ca')) :
    ∀ (d s : Nat) (lo hi ca : Nat → Int32), s + d = mj_slot φ τ ρ o j → φ j ≤ s →
    (∀ i, i < 7 → i ≠ j → lo i = nI (my_la φ τ ρ o φ j i) ∧ hi i = nI (my_la φ τ ρ o τ j i) ∧ my_la φ τ ρ o φ j i ≤ 11 ∧ my_la φ τ ρ o τ j i ≤ 11) →
    wY_settle_7 post (nI j) (nI o) (d + 1) (nI s) cp Rm hd Fr To Va lo hi ca := by
  obtain ⟨hR, hr, hF, hT, hf, ht, hV, hw⟩ := H
  have sp := mj_slot_sp (j := j) ho hg hr hb
  have t11 := ht j hj
  intro d
  induction d with
  | zero =>
    intro s lo hi ca hd' hs hk
    have e : s = mj_slot φ τ ρ o j := by omega
    have s11 := sp.1.2.1
    have su := sp.1.1.2
    rw [← e] at s11 su
    refine ⟨pk_in j 7 hj, pk_lt (τ j) s (fun g => absurd g (by omega)) (fun _ => ⟨pk_in j 7 hj, nm_e ⟨pk_in j 7 hj, nm_e ?_⟩⟩) (mt_at hT hj) rfl (by omega) (by omega)⟩
    have ok := my_ok_p (lo := lo) (hi := hi) (s := s) hj (by omega) hk
    refine my_sweep ok hR hr ho fun ca' tb => ?_
    dsimp only
    rw [mt_127 o ho]
    refine ⟨pk_in o 128 ho, ?_⟩
    rcases tb o ho with ⟨p1, p2⟩ | ⟨p1, p2⟩
    · refine br_f (by rw [nI_clamp (by omega), p2]; decide) ?_
      rw [e] at ok ⊢
      rw [my_la_t hb, my_la_t hb] at ok
      exact h _ _ ca' ok
    · refine absurd ⟨fun _ q => q, ?_⟩ p1
      rw [my_la_us ho, mj_ycond ho hg hr hb s11 ⟨hs, su⟩, e]
      exact sp.1
  | succ d ih =>
    intro s lo hi ca hd' hs hk
    have s11 := sp.1.2.1
    have su := sp.1.1.2
    refine ⟨pk_in j 7 hj, pk_lt (τ j) s (fun g => absurd g (by omega)) (fun g => ⟨pk_in j 7 hj, nm_e ⟨pk_in j 7 hj, nm_e ?_⟩⟩) (mt_at hT hj) rfl (by omega) (by omega)⟩
    have ok := my_ok_p (lo := lo) (hi := hi) (s := s) hj (by omega) hk
    refine my_sweep ok hR hr ho fun ca' tb => ?_
    dsimp only
    rw [mt_127 o ho]
    refine ⟨pk_in o 128 ho, ?_⟩
    rcases tb o ho with ⟨p1, p2⟩ | ⟨p1, p2⟩
    · refine absurd ?_ (sp.2 s (by omega))
      rw [← mj_ycond ho hg hr hb (by omega) ⟨hs, g⟩, ← my_la_us ho]
      exact p1.2
    · refine br_t (by rw [nI_clamp (by omega), p2]) (nm_r (nI_1 s) (ih (s + 1) _ _ ca' (by omega) (by omega) fun i hi' ne => ?_))
      rw [nI_clamp (by omega), pk_un ne, pk_un ne]
      exact hk i hi' ne
theorem my_settle {post : Int32 → SY → Prop} (H : my_OK φ τ ρ ω Rm Fr To Va) {o j : Nat} (ho : o < 128) (hj : j < 7) (hb : o.testBit j = true) (hg : mj_G (mj_us φ τ) (mj_pl ρ 12 0) (mj_ms o))
    (hk : my_ok (my_la φ τ ρ o φ j) (my_la φ τ ρ o τ j) lo hi)
    (h : ∀ lo' hi' ca' : Nat → Int32, my_ok (my_la φ τ ρ o φ (j + 1)) (my_la φ τ ρ o τ (j + 1)) lo' hi' → post (nI (mj_slot φ τ ρ o j)) (cp, Rm, hd, Fr, To, Va, lo', hi', ca')) :
    wpY_settle post (cp, Rm, hd, Fr, To, Va, lo, hi, ca) (nI j) (nI o) := by
  have sp := (mj_slot_sp (j := j) ho hg H.2.1 hb).1.1.1
  refine ⟨pk_in j 7 hj, nm_r (mt_at H.2.2.1 hj) ⟨mj_slot φ τ ρ o j - φ j + 1, my_se7 H ho hj hb hg h _ (φ j) lo hi ca (by omega) (Nat.le_refl _) fun i hi' _ => ?_⟩⟩
  exact ⟨hk.1 i hi', hk.2.1 i hi', hk.2.2.1 i hi', hk.2.2.2 i hi'⟩
theorem my_sl28 {post : Int32 → SY → Prop} (H : my_OK φ τ ρ ω Rm Fr To Va) {o id : Nat} (ho : o < 128) (hid : id < 7) (hb : o.testBit id = true) (hg : mj_G (mj_us φ τ) (mj_pl ρ 12 0) (mj_ms o))
    (h : ∀ lo' hi' ca' : Nat → Int32, post (nI (mj_slot φ τ ρ o id)) (cp, Rm, hd, Fr, To, Va, lo', hi', ca')) :
    ∀ (d j : Nat) (r : Int32) (lo hi ca : Nat → Int32), j + d = id + 1 → (j = id + 1 → r = nI (mj_slot φ τ ρ o id)) → my_ok (my_la φ τ ρ o φ j) (my_la φ τ ρ o τ j) lo hi →
    wY_slotOf_28 post (nI id) (nI o) (d + 1) r (nI j) cp Rm hd Fr To Va lo hi ca := by
  intro d
  induction d with
  | zero =>
    intro j r lo hi ca hd' hr hk
    refine pk_lt id j (fun _ => ?_) (fun g => absurd g (by omega))
    rw [hr (by omega)]
    exact h lo hi ca
  | succ d ih =>
    intro j r lo hi ca hd' hr hk
    have hj : j < 7 := by omega
    refine pk_lt id j (fun g => absurd g (by omega)) (fun _ => pk_le 7 j (fun g => absurd g (by omega)) (fun _ => ?_))
    rw [mt_shr o ho j hj]
    cases b : o.testBit j with
    | true =>
      refine br_t (by decide) (my_settle H ho hj b hg hk fun lo' hi' ca' hk' => nm_r (nI_1 j) (ih (j + 1) _ lo' hi' ca' (by omega) (fun e => ?_) hk'))
      have e : j = id := by omega
      rw [e]
    | false =>
      refine br_f (by decide) (nm_r (nI_1 j) (ih (j + 1) r lo hi ca (by omega) (fun e => ?_) ?_))
      · have e : j = id := by omega
        rw [e, hb] at b; cases b
      · rw [my_la_f b, my_la_f b]; exact hk
theorem my_iu4 {post : Int32 → Prop} (h : post (nI (mj_ct m))) : ∀ d i : Nat, i + d = 7 → wY_inUse_4 post cp Rm (my_hb m) Fr To Va lo hi ca (d + 1) (nI (mj_sm (fun _ => 1) (mj_ms m) i)) (nI i) := by
  intro d
  induction d with
  | zero =>
    intro i hd'
    have e : i = 7 := by omega
    subst e
    exact pk_le 7 7 (fun _ => h) (fun g => absurd g (by omega))
  | succ d ih =>
    intro i hd'
    have hi : i < 7 := by omega
    have n := ih (i + 1) (by omega)
    refine pk_le 7 i (fun g => absurd g (by omega)) (fun _ => ⟨pk_in i 7 hi, ?_⟩)
    cases b : m.testBit i with
    | true =>
      refine br_f (my_hb1 m hi b) (nm_r ?_ (nm_r (nI_1 i) n))
      rw [nI_1, mj_sm]
      simp [mj_ms, b]
    | false =>
      refine br_t (my_hb0 m hi b) (nm_r ?_ (nm_r (nI_1 i) n))
      rw [Int32.add_zero, mj_sm]
      simp [mj_ms, b]
theorem my_inUse {post : Int32 → Prop} (h : post (nI (mj_ct m))) : wpY_inUse post (cp, Rm, my_hb m, Fr, To, Va, lo, hi, ca) := ⟨8, my_iu4 h 7 0 rfl⟩
theorem my_b31 {post : Int32 → SY → Prop} {x1 x2 x3 : Int32} (h : ∀ j, j ≤ 7 → (∀ i, i < j → m.testBit i = true) → (j < 7 → m.testBit j = false) → wY_bring_54 post x1 x2 x3 (nI j) cp Rm (my_hb m) Fr To Va lo hi ca) :
    ∀ d i : Nat, i + d = 7 → (∀ k, k < i → m.testBit k = true) → wY_bring_31 post x1 x2 x3 cp Rm (my_hb m) Fr To Va lo hi ca (d + 1) (nI i) := by
  intro d
  induction d with
  | zero =>
    intro i hd' hk
    exact pk_le 7 i (fun _ => h i (by omega) hk (fun g => absurd g (by omega))) (fun g => absurd g (by omega))
  | succ d ih =>
    intro i hd' hk
    have hi : i < 7 := by omega
    refine pk_le 7 i (fun g => absurd g (by omega)) (fun _ => ⟨pk_in i 7 hi, ?_⟩)
    cases b : m.testBit i with
    | true => exact br_f (my_hb1 m hi b) (nm_r (nI_1 i) (ih (i + 1) (by omega) (lt_s hk b)))
    | false => exact br_t (my_hb0 m hi b) (h i (by omega) hk (fun _ => b))
end
theorem mx_lf2 {post : Int32 → Prop} {p : Int32} {R F T V tr tw : Nat → Int32} {cc m : Nat} (hm : m < 128) (hc : cc ≤ 7) (h1 : ∀ j, j < cc → (∀ i, i < j → m.testBit i = true) → m.testBit j = false → post (nI j)) (h0 : (∀ i, i < cc → m.testBit i = true) → post (-1)) :
    ∀ d i : Nat, i + d = cc → (∀ k, k < i → m.testBit k = true) → wX_leastFreeNumber_2 post (nI cc) (nI m) R F T V tr tw (d + 1) (nI i) := by
  intro d
  induction d with
  | zero =>
    intro i hd' hk
    have e : i = cc := by omega
    subst e
    exact pk_le i i (fun _ => h0 hk) (fun g => absurd g (by omega))
  | succ d ih =>
    intro i hd' hk
    exact pk_le cc i (fun g => absurd g (by omega)) (fun g => mx_isinj hm (by omega) (fun b => br_f (by decide) (nm_r (nI_1 i) (ih (i + 1) (by omega) (lt_s hk b)))) (fun b => br_t rfl (h1 i g hk b)))
theorem mx_lf {post : Int32 → Prop} {R F T V tr tw : Nat → Int32} {cc m : Nat} (hm : m < 128) (hc : cc ≤ 7) (h1 : ∀ j, j < cc → (∀ i, i < j → m.testBit i = true) → m.testBit j = false → post (nI j)) (h0 : (∀ i, i < cc → m.testBit i = true) → post (-1)) :
    wpX_leastFreeNumber post (nI cc, nI m, R, F, T, V, tr, tw) := ⟨cc + 1, mx_lf2 (p := 0) hm hc h1 h0 cc 0 (by omega) lt_0⟩
theorem mt_full : ∀ cc : Nat, cc < 8 → ∀ m : Nat, m < 128 → (∀ i, i < cc → m.testBit i = true) → cc ≤ mj_ct m := by decide +kernel
theorem mt_free : ∀ cc : Nat, cc < 8 → ∀ m : Nat, m < 128 → m < 2 ^ cc → (∀ j : Nat, j < cc → m.testBit j = false → mj_ct m < cc) := by decide +kernel
theorem mt_fre2 {cc m j : Nat} (hm : m < 2 ^ cc) (hj : j < cc) : m ||| 2 ^ j < 2 ^ cc := Nat.or_lt_two_pow hm (Nat.pow_lt_pow_right (by omega) hj)
end
section
/-! the relation; what is owed, but for the long questions -/
def mz_f (α : Nat → Nat) : Nat → Int32 := fun i => nI (α i)
def mz_in (cc m : Nat) (ρ φ τ ω : Nat → Nat) : Prop :=
  1 ≤ cc ∧ cc ≤ 7 ∧ m < 2 ^ cc ∧ (∀ s, ρ s ≤ 3) ∧ (∀ i, φ i ≤ 11) ∧ (∀ i, τ i ≤ 11) ∧ (∀ i, ω i ≤ 20) ∧ ∀ i, m.testBit i = true → 1 ≤ ω i
/-- the two objects hold the same: capacity, rooms, windows, worths; the jobs as a mask and as flags; the rest is scratch -/
def i_Rel (k : Nat) (u : SX) (v : SY) : Prop :=
  ∃ (cc m : Nat) (ρ φ τ ω : Nat → Nat) (tr tw lo hi ca : Nat → Int32), u = (nI cc, nI m, mz_f ρ, mz_f φ, mz_f τ, mz_f ω, tr, tw) ∧ v = (nI cc, mz_f ρ, my_hb m, mz_f φ, mz_f τ, mz_f ω, lo, hi, ca) ∧ mz_in cc m ρ φ τ ω
theorem i_up {k : Nat} {u : SX} {v : SY} (h : i_Rel k u v) : i_Rel (k + 4) u v := h
theorem mz_rel {k cc m : Nat} {ρ φ τ ω : Nat → Nat} {tr tw lo hi ca : Nat → Int32} (h : mz_in cc m ρ φ τ ω) : i_Rel k (nI cc, nI m, mz_f ρ, mz_f φ, mz_f τ, mz_f ω, tr, tw) (nI cc, mz_f ρ, my_hb m, mz_f φ, mz_f τ, mz_f ω, lo, hi, ca) :=
  ⟨cc, m, ρ, φ, τ, ω, tr, tw, lo, hi, ca, rfl, rfl, h⟩
theorem mz_m {cc m : Nat} {ρ φ τ ω : Nat → Nat} (h : mz_in cc m ρ φ τ ω) : m < 128 :=
  Nat.lt_of_lt_of_le h.2.2.1 (Nat.pow_le_pow_right (by omega) h.2.1 : 2 ^ cc ≤ 2 ^ 7)
theorem mz_up {α : Nat → Nat} {j x : Nat} (hj : j < 2 ^ 31) : upd (mz_f α) (nI j).toNatClampNeg (nI x) = mz_f (mj_nu α j x) := by
  rw [nI_clamp hj]
  funext i
  unfold upd mz_f mj_nu
  split <;> rfl
theorem my_hb_cl {m j : Nat} (hm : m < 128) (hj : j < 7) : upd (my_hb m) (nI j).toNatClampNeg (vp_nar .boolean 0) = my_hb (mj_cl m j) := by
  rw [nI_clamp (by omega), mt_vn0]
  funext i
  have e := congrFun (mj_ms_cl hm j) i
  unfold mj_ms mj_rm at e
  unfold upd my_hb
  rw [e]
  by_cases g : i = j
  · rw [if_pos g]; simp [g]; decide
  · rw [if_neg g]; simp [g]
theorem my_hb_or {m j : Nat} (hj : j < 7) : upd (my_hb m) (nI j).toNatClampNeg (vp_nar .boolean 1) = my_hb (m ||| 2 ^ j) := by
  rw [nI_clamp (by omega), mt_vn1]
  funext i
  have e := congrFun (mj_ms_or m j) i
  unfold mj_ms mj_ad at e
  unfold upd my_hb
  rw [e]
  by_cases g : i = j
  · rw [if_pos g]; simp [g]; decide
  · rw [if_neg g]; simp [g]
theorem mz_cl (x : Int32) (a b : Nat) (hab : a ≤ b) (hb : b < 2 ^ 31) : ∃ v, a ≤ v ∧ v ≤ b ∧ ∀ A : Int32 → Prop, A (nI v) → ((nI a ≤ x → ((x ≤ nI b → A x) ∧ (¬ x ≤ nI b → A (nI b)))) ∧ (¬ nI a ≤ x → A (nI a))) := by
  by_cases h1 : nI a ≤ x
  · have h0 : ¬ x < 0 := fun h => by
      have := Int32.lt_of_le_of_lt h1 h
      exact absurd this (nI_pos (by omega))
    obtain ⟨j, hj, rfl⟩ := nI_of h0
    rw [nI_leI (by omega) hj] at h1
    by_cases h2 : nI j ≤ nI b
    · refine ⟨j, h1, (nI_leI hj hb).mp h2, fun A h => br_t (nI_le h1 hj) (br_t h2 h)⟩
    · exact ⟨b, hab, Nat.le_refl _, fun A h => br_t (nI_le h1 hj) (br_f h2 h)⟩
  · exact ⟨a, Nat.le_refl _, hab, fun A h => br_f h1 h⟩
def mz_c (n k : Nat) : Nat → Nat := fun s => if s < k then n else 0
theorem mz_cs (n i : Nat) : mj_nu (mz_c n i) i n = mz_c n (i + 1) := by
  funext s
  unfold mj_nu mz_c
  by_cases h : s = i
  · rw [if_pos h, if_pos (by omega)]
  · rw [if_neg h]
    by_cases g : s < i
    · rw [if_pos g, if_pos (by omega)]
    · rw [if_neg g, if_neg (by omega)]
theorem mz_c0 (n : Nat) : (fun _ => (0 : Int32)) = mz_f (mz_c n 0) := by
  funext s
  unfold mz_f mz_c
  rw [if_neg (by omega)]
  rfl
theorem mz_xi78 {post : SX → Prop} {cI : Int32} {n : Nat} {F T V tr tw : Nat → Int32} (h : post (cI, 0, mz_f (mz_c n 12), F, T, V, tr, tw)) :
    ∀ d i : Nat, i + d = 12 → wX_init_78 post (nI n) cI 0 (d + 1) (nI i) (mz_f (mz_c n i)) F T V tr tw := by
  intro d
  induction d with
  | zero =>
    intro i hd
    have e : i = 12 := by omega
    subst e
    exact pk_le 12 12 (fun _ => h) (fun g => absurd g (by omega))
  | succ d ih =>
    intro i hd
    refine pk_le 12 i (fun g => absurd g (by omega)) (fun _ => ⟨pk_in i 12 (by omega), nm_r ?_ (nm_r (nI_1 i) (ih (i + 1) (by omega)))⟩)
    rw [mz_up (by omega), mz_cs]
theorem mz_yi116 {post : SY → Prop} {cI : Int32} {n : Nat} {hd Fr To Va lo hi ca : Nat → Int32} (h : post (cI, mz_f (mz_c n 12), hd, Fr, To, Va, lo, hi, ca)) :
    ∀ d i : Nat, i + d = 12 → wY_init_116 post (nI n) cI (d + 1) (nI i) (mz_f (mz_c n i)) hd Fr To Va lo hi ca := by
  intro d
  induction d with
  | zero =>
    intro i hd
    have e : i = 12 := by omega
    subst e
    exact pk_le 12 12 (fun _ => h) (fun g => absurd g (by omega))
  | succ d ih =>
    intro i hd
    refine pk_le 12 i (fun g => absurd g (by omega)) (fun _ => ⟨pk_in i 12 (by omega), nm_r ?_ (nm_r (nI_1 i) (ih (i + 1) (by omega)))⟩)
    rw [mz_up (by omega), mz_cs]
theorem mz_rel0 {cc n : Nat} (h1 : 1 ≤ cc) (h7 : cc ≤ 7) (hn : n ≤ 3) : i_Rel 2 (nI cc, 0, mz_f (mz_c n 12), fun _ => 0, fun _ => 0, fun _ => 0, fun _ => 0, fun _ => 0) (nI cc, mz_f (mz_c n 12), fun _ => 0, fun _ => 0, fun _ => 0, fun _ => 0, fun _ => 0, fun _ => 0, fun _ => 0) := by
  refine ⟨cc, 0, mz_c n 12, mz_c 0 0, mz_c 0 0, mz_c 0 0, fun _ => 0, fun _ => 0, fun _ => 0, fun _ => 0, fun _ => 0, ?_, ?_, h1, h7, Nat.pow_pos (by omega), fun s => ?_, fun i => ?_, fun i => ?_, fun i => ?_, fun i hi => ?_⟩
  · rw [← mz_c0 0]; rfl
  · have e : my_hb 0 = fun _ => 0 := by
      funext i
      unfold my_hb
      rw [Nat.zero_testBit]; decide
    rw [← mz_c0 0, e]
  · unfold mz_c; split <;> omega
  · unfold mz_c; split <;> omega
  · unfold mz_c; split <;> omega
  · unfold mz_c; split <;> omega
  · rw [Nat.zero_testBit] at hi; cases hi
theorem i_vc0 (k0 : Int32) (k1 : Int32) : wpX_init (fun u => wpY_init (fun v => i_Rel 2 u v) k0 k1) k0 k1 := by
  obtain ⟨cc, c1, c7, hc⟩ := mz_cl k0 1 7 (by omega) (by omega)
  obtain ⟨n, _, n3, hn⟩ := mz_cl k1 0 3 (by omega) (by omega)
  unfold wpX_init
  refine hc (fun r1 => wpX_clamp (fun r2 => ∃ n78 : Nat, wX_init_78 (fun u => wpY_init (fun v => i_Rel 2 u v) k0 k1) r2 r1 0 n78 0 (fun _ => 0) (fun _ => 0) (fun _ => 0) (fun _ => 0) (fun _ => 0) (fun _ => 0)) k1 0 3) ?_
  refine hn (fun r2 => ∃ n78 : Nat, wX_init_78 (fun u => wpY_init (fun v => i_Rel 2 u v) k0 k1) r2 (nI cc) 0 n78 0 (fun _ => 0) (fun _ => 0) (fun _ => 0) (fun _ => 0) (fun _ => 0) (fun _ => 0)) ⟨13, ?_⟩
  have z := mz_xi78 (post := fun u => wpY_init (fun v => i_Rel 2 u v) k0 k1) (cI := nI cc) (n := n) (F := fun _ => 0) (T := fun _ => 0) (V := fun _ => 0) (tr := fun _ => 0) (tw := fun _ => 0) ?_ 12 0 rfl
  · rw [← mz_c0 n] at z
    exact z
  · unfold wpY_init
    refine hc (fun z => wY_init_91 _ k1 z 0 _ _ _ _ _ _ _ _) ?_
    unfold wY_init_91
    refine hn (fun z => ∃ n116 : Nat, wY_init_116 _ z (nI cc) n116 0 _ _ _ _ _ _ _ _) ⟨13, ?_⟩
    have y := mz_yi116 (post := fun v => i_Rel 2 (nI cc, 0, mz_f (mz_c n 12), fun _ => 0, fun _ => 0, fun _ => 0, fun _ => 0, fun _ => 0) v) (cI := nI cc) (n := n) (hd := fun _ => 0) (Fr := fun _ => 0) (To := fun _ => 0) (Va := fun _ => 0) (lo := fun _ => 0) (hi := fun _ => 0) (ca := fun _ => 0) (mz_rel0 c1 c7 n3) 12 0 rfl
    rw [← mz_c0 n] at y
    exact y
theorem i_vc_jobs {k : Nat} {u : SX} {v : SY} (I : i_Rel k u v) (hk : k + 4 ≤ 2050) : wpX_jobs (fun r => wpY_jobs (fun r' => r' = r ∧ i_Rel (k + 4) u v) v) u := by
  have I' := i_up I
  obtain ⟨cc, m, ρ, φ, τ, ω, tr, tw, lo, hi, ca, rfl, rfl, h⟩ := I
  unfold wpX_jobs
  dsimp only
  exact my_jobs (mz_m h) ⟨rfl, I'⟩
theorem i_vc_room {k : Nat} {u : SX} {v : SY} (I : i_Rel k u v) (hk : k + 4 ≤ 2050) (v1 : Int32) : wpX_room (fun r => wpY_room (fun r' => r' = r ∧ i_Rel (k + 4) u v) v v1) u v1 := by
  have I' := i_up I
  obtain ⟨cc, m, ρ, φ, τ, ω, tr, tw, lo, hi, ca, rfl, rfl, h⟩ := I
  unfold wpX_room
  dsimp only
  by_cases hx : v1 < 0
  · exact br_t hx (br_t rfl (br_t hx ⟨rfl, I'⟩))
  · obtain ⟨j, hj, rfl⟩ := nI_of hx
    exact br_f hx (pk_le 12 j (fun g => br_t rfl (br_f hx (pk_le j 11 (fun g' => absurd g' (by omega)) (fun _ => ⟨rfl, I'⟩)))) (fun g => br_f (by decide) ⟨pk_in j 12 g, br_f hx (pk_le j 11 (fun _ => ⟨pk_in j 12 g, rfl, I'⟩) (fun g' => absurd g' (by omega)))⟩))
theorem i_vc_worth {k : Nat} {u : SX} {v : SY} (I : i_Rel k u v) (hk : k + 4 ≤ 2050) (v1 : Int32) : wpX_worth (fun r => wpY_worth (fun r' => r' = r ∧ i_Rel (k + 4) u v) v v1) u v1 := by
  have I' := i_up I
  obtain ⟨cc, m, ρ, φ, τ, ω, tr, tw, lo, hi, ca, rfl, rfl, h⟩ := I
  unfold wpX_worth wpY_worth
  dsimp only
  refine mx_isin (mz_m h) v1 (fun j hj e b => br_f (by decide) ⟨pk_in j 7 hj e, ?_⟩) (fun n => br_t rfl ?_)
  · refine my_there v1 (fun i hi' e' b' => br_f (by decide) ⟨pk_in j 7 hj e, rfl, I'⟩) (fun n => ?_)
    have := n j hj e
    rw [b] at this; cases this
  · refine my_there v1 (fun j hj e b => ?_) (fun _ => br_t rfl ⟨rfl, I'⟩)
    have := n j hj e
    rw [b] at this; cases this
theorem i_vc_take {k : Nat} {u : SX} {v : SY} (I : i_Rel k u v) (hk : k + 4 ≤ 2050) (v1 : Int32) : wpX_take (fun r u' => wpY_take (fun r' v' => r' = r ∧ i_Rel (k + 4) u' v') v v1) u v1 := by
  have I' := i_up I
  obtain ⟨cc, m, ρ, φ, τ, ω, tr, tw, lo, hi, ca, rfl, rfl, h⟩ := I
  have hm := mz_m h
  unfold wpX_take wpY_take
  dsimp only
  refine mx_isin hm v1 (fun j hj e b => br_f (by decide) ?_) (fun n => br_t rfl ?_)
  · subst e
    refine nm_r (mt_cl m hm j hj) ?_
    refine my_there (nI j) (fun i hi' e' b' => br_f (by decide) ⟨pk_in j 7 hj, nm_r (my_hb_cl hm hj) ⟨rfl, mz_rel ?_⟩⟩) (fun n => ?_)
    · obtain ⟨h1, h2, h3, h4, h5, h6, h7, h8⟩ := h
      exact ⟨h1, h2, Nat.lt_of_le_of_lt Nat.and_le_left h3, h4, h5, h6, h7, fun i hi => h8 i ((mj_tb_cl hm j i).mp hi).1⟩
    · have := n j hj rfl
      rw [b] at this; cases this
  · refine my_there v1 (fun j hj e b => ?_) (fun _ => br_t rfl ⟨rfl, I'⟩)
    have := n j hj e
    rw [b] at this; cases this
theorem i_vc_setRoom {k : Nat} {u : SX} {v : SY} (I : i_Rel k u v) (hk : k + 4 ≤ 2050) (v1 : Int32) (v2 : Int32) : wpX_setRoom (fun r u' => wpY_setRoom (fun r' v' => r' = r ∧ i_Rel (k + 4) u' v') v v1 v2) u v1 v2 := by
  have I' := i_up I
  obtain ⟨cc, m, ρ, φ, τ, ω, tr, tw, lo, hi, ca, rfl, rfl, h⟩ := I
  unfold wpX_setRoom wpX_isSlot wpY_setRoom
  dsimp only
  by_cases hx : v1 < 0
  · exact br_t hx (br_t rfl (br_t hx ⟨rfl, I'⟩))
  · obtain ⟨j, hj, rfl⟩ := nI_of hx
    refine br_f hx (pk_le 12 j (fun g => br_t rfl (br_f hx (pk_lt 11 j (fun _ => ⟨rfl, I'⟩) (fun g' => absurd g' (by omega))))) (fun g => br_f (by decide) ?_))
    by_cases hy : v2 < 0
    · exact br_t hy (br_f hx (pk_lt 11 j (fun g' => absurd g' (by omega)) (fun _ => br_t hy ⟨rfl, I'⟩)))
    · obtain ⟨x, hx', rfl⟩ := nI_of hy
      refine br_f hy (pk_le x 3 (fun g3 => ⟨pk_in j 12 g, nm_r (mz_up hj) (br_f hx (pk_lt 11 j (fun g' => absurd g' (by omega)) (fun _ => br_f hy (pk_le x 3 (fun _ => ⟨pk_in j 12 g, nm_r (mz_up hj) ⟨rfl, mz_rel ?_⟩⟩) (fun g' => absurd g' (by omega))))))⟩) (fun g3 => br_f hx (pk_lt 11 j (fun g' => absurd g' (by omega)) (fun _ => br_f hy (pk_le x 3 (fun g' => absurd g' (by omega)) (fun _ => ⟨rfl, I'⟩))))))
      obtain ⟨h1, h2, h3, h4, h5, h6, h7, h8⟩ := h
      refine ⟨h1, h2, h3, fun s => ?_, h5, h6, h7, h8⟩
      have := h4 s
      unfold mj_nu
      split <;> omega
theorem i_vc_revalue {k : Nat} {u : SX} {v : SY} (I : i_Rel k u v) (hk : k + 4 ≤ 2050) (v1 : Int32) (v2 : Int32) : wpX_revalue (fun r u' => wpY_revalue (fun r' v' => r' = r ∧ i_Rel (k + 4) u' v') v v1 v2) u v1 v2 := by
  have I' := i_up I
  obtain ⟨cc, m, ρ, φ, τ, ω, tr, tw, lo, hi, ca, rfl, rfl, h⟩ := I
  have hm := mz_m h
  unfold wpX_revalue wpX_isWorth wpY_revalue
  dsimp only
  refine mx_isin hm v1 (fun j hj e b => br_f (by decide) ?_) (fun n => br_t rfl ?_)
  · subst e
    have th : ∀ P : Int32 → Prop, P 1 → wpY_there P (nI cc, mz_f ρ, my_hb m, mz_f φ, mz_f τ, mz_f ω, lo, hi, ca) (nI j) := fun P hP => my_there (nI j) (fun _ _ _ _ => hP) (fun n => by
      have := n j hj rfl
      rw [b] at this; cases this)
    by_cases hy : v2 < 1
    · exact br_t hy (br_t rfl (th _ (br_f (by decide) (br_t hy ⟨rfl, I'⟩))))
    · have hy0 : ¬ v2 < 0 := fun q => hy (Int32.lt_trans q (by decide))
      obtain ⟨x, hx', rfl⟩ := nI_of hy0
      have x1 : 1 ≤ x := by
        rcases Nat.lt_or_ge x 1 with q | q
        · exact absurd (nI_lt q (by omega)) hy
        · exact q
      refine br_f hy (pk_lt 20 x (fun g => br_t rfl (th _ (br_f (by decide) (br_f hy (pk_le x 20 (fun g' => absurd g' (by omega)) (fun _ => ⟨rfl, I'⟩)))))) (fun g => br_f (by decide) ⟨pk_in j 7 hj, nm_r (mz_up (by omega)) (th _ (br_f (by decide) (br_f hy (pk_le x 20 (fun _ => ⟨pk_in j 7 hj, nm_r (mz_up (by omega)) ⟨rfl, mz_rel ?_⟩⟩) (fun g' => absurd g' (by omega))))))⟩))
      obtain ⟨h1, h2, h3, h4, h5, h6, h7, h8⟩ := h
      refine ⟨h1, h2, h3, h4, h5, h6, fun s => ?_, fun i hi => ?_⟩
      · have := h7 s
        unfold mj_nu
        split <;> omega
      · have := h8 i hi
        unfold mj_nu
        split <;> omega
  · refine my_there v1 (fun j hj e b => ?_) (fun _ => br_t rfl ⟨rfl, I'⟩)
    have := n j hj e
    rw [b] at this; cases this
end
section
/-! what is owed: bring and the long questions -/
theorem mz_ox {cc m : Nat} {ρ φ τ ω : Nat → Nat} (h : mz_in cc m ρ φ τ ω) {tr tw : Nat → Int32} (h1 : ∀ s, s < 12 → tr s = mz_f ρ s) (h2 : ∀ i, i < 7 → tw i = mz_f ω i) : mx_ok φ τ ρ ω (mz_f φ) (mz_f τ) tr tw :=
  ⟨fun _ _ => rfl, fun _ _ => rfl, fun i _ => h.2.2.2.2.1 i, fun i _ => h.2.2.2.2.2.1 i, h1, fun s _ => Nat.le_trans (h.2.2.2.1 s) (by omega), h2, fun i _ => h.2.2.2.2.2.2.1 i⟩
theorem mz_oy {cc m : Nat} {ρ φ τ ω : Nat → Nat} (h : mz_in cc m ρ φ τ ω) : my_OK φ τ ρ ω (mz_f ρ) (mz_f φ) (mz_f τ) (mz_f ω) :=
  ⟨fun _ _ => rfl, fun s _ => Nat.le_trans (h.2.2.2.1 s) (by omega), fun _ _ => rfl, fun _ _ => rfl, fun i _ => h.2.2.2.2.1 i, fun i _ => h.2.2.2.2.2.1 i, fun _ _ => rfl, fun i _ => h.2.2.2.2.2.2.1 i⟩
theorem i_vc_chosen {k : Nat} {u : SX} {v : SY} (I : i_Rel k u v) (hk : k + 4 ≤ 2050) : wpX_chosen (fun r u' => wpY_chosen (fun r' v' => r' = r ∧ i_Rel (k + 4) u' v') v) u := by
  obtain ⟨cc, m, ρ, φ, τ, ω, tr, tw, lo, hi, ca, rfl, rfl, h⟩ := I
  have hm := mz_m h
  unfold wpX_chosen
  dsimp only
  refine mx_st fun tr' tw' h1 h2 => ?_
  exact mx_best (mz_ox h h1 h2) hm h.2.2.2.2.2.2.2 (mj_best_sp φ τ ρ ω m) (my_chosen (mz_oy h) hm fun lo' hi' ca' _ _ => ⟨rfl, mz_rel h⟩)
theorem i_vc_total {k : Nat} {u : SX} {v : SY} (I : i_Rel k u v) (hk : k + 4 ≤ 2050) : wpX_total (fun r u' => wpY_total (fun r' v' => r' = r ∧ i_Rel (k + 4) u' v') v) u := by
  obtain ⟨cc, m, ρ, φ, τ, ω, tr, tw, lo, hi, ca, rfl, rfl, h⟩ := I
  have hm := mz_m h
  unfold wpX_total
  dsimp only
  refine mx_st fun tr' tw' h1 h2 => ?_
  exact mx_tot (mz_ox h h1 h2) hm h.2.2.2.2.2.2.2 (my_total (mz_oy h) hm fun lo' hi' ca' => ⟨rfl, mz_rel h⟩)
theorem i_vc_fits {k : Nat} {u : SX} {v : SY} (I : i_Rel k u v) (hk : k + 4 ≤ 2050) (v1 : Int32) : wpX_fits (fun r u' => wpY_fits (fun r' v' => r' = r ∧ i_Rel (k + 4) u' v') v v1) u v1 := by
  have I' := i_up I
  obtain ⟨cc, m, ρ, φ, τ, ω, tr, tw, lo, hi, ca, rfl, rfl, h⟩ := I
  have hm := mz_m h
  have oy := mz_oy h
  unfold wpX_fits wpY_fits
  dsimp only
  refine br_c (fun g => ?_) (fun g => my_jobs hm (br_f g ⟨rfl, I'⟩))
  obtain ⟨w, hw, rfl, sb⟩ := mt_sub v1 hm g
  have yy : ∀ (x : Int32) (tr' tw' : Nat → Int32), ((mj_G (mj_us φ τ) (mj_pl ρ 12 0) (mj_ms w) ∧ x = 1) ∨ (¬ mj_G (mj_us φ τ) (mj_pl ρ 12 0) (mj_ms w) ∧ x = 0)) →
      wpY_fits (fun r' v' => r' = x ∧ i_Rel (k + 4) (nI cc, nI m, mz_f ρ, mz_f φ, mz_f τ, mz_f ω, tr', tw') v') (nI cc, mz_f ρ, my_hb m, mz_f φ, mz_f τ, mz_f ω, lo, hi, ca) (nI w) := by
    intro x tr' tw' hx
    unfold wpY_fits
    dsimp only
    refine my_jobs hm (br_t g ?_)
    refine my_ask fun lo' hi' h1 h2 => ?_
    refine my_sweep (la := φ) (et := τ) ⟨h1, h2, oy.2.2.2.2.1, oy.2.2.2.2.2.1⟩ oy.1 oy.2.1 hm fun ca' tb => ?_
    dsimp only
    rw [mt_127 w hw, nI_clamp (by omega)]
    rcases tb w hw with ⟨p1, p2⟩ | ⟨p1, p2⟩
    · rw [p2]
      rcases hx with ⟨_, e⟩ | ⟨q, _⟩
      · exact ⟨pk_in w 128 hw, mt_na1, e.symm, mz_rel h⟩
      · exact absurd p1.2 q
    · rw [p2]
      rcases hx with ⟨q, _⟩ | ⟨_, e⟩
      · exact absurd ⟨sb, q⟩ p1
      · exact ⟨pk_in w 128 hw, mt_na0, e.symm, mz_rel h⟩
  refine mx_st fun tr' tw' h1 h2 => ?_
  exact mx_cp (mz_ox h h1 h2) hw (fun q => ⟨mt_na1, yy 1 tr' tw' (.inl ⟨q, rfl⟩)⟩) (fun q => ⟨mt_na0, yy 0 tr' tw' (.inr ⟨q, rfl⟩)⟩)
theorem i_vc_price {k : Nat} {u : SX} {v : SY} (I : i_Rel k u v) (hk : k + 4 ≤ 2050) (v1 : Int32) : wpX_price (fun r u' => wpY_price (fun r' v' => r' = r ∧ i_Rel (k + 4) u' v') v v1) u v1 := by
  have I' := i_up I
  obtain ⟨cc, m, ρ, φ, τ, ω, tr, tw, lo, hi, ca, rfl, rfl, h⟩ := I
  have hm := mz_m h
  unfold wpX_price
  dsimp only
  refine mx_isin hm v1 (fun j hj e b => br_f (by decide) ?_) (fun n => br_t rfl ?_)
  · subst e
    refine mx_st fun tr' tw' h1 h2 => ⟨21, mx_pr19 (mz_ox h h1 h2) hm hj h.2.2.2.2.2.2.2 (fun r tw2 hr => ?_) 20 1 tw' rfl (by omega) (fun i hi' _ => h2 i hi') (fun x a c => absurd c (by omega))⟩
    unfold wpY_price
    dsimp only
    refine my_there (nI j) (fun i hi' e' b' => br_f (by decide) ⟨pk_in j 7 hj, nm_r (e' := mz_f ω j) ?_ ⟨21, my_pr24 (mz_oy h) hm hj hr (fun lo' hi' ca' => ⟨rfl, mz_rel h⟩) 20 21 _ lo hi ca (by omega) (fun _ _ => rfl) (by omega) (by omega) (fun g => absurd g (by omega)) (fun x a c => absurd c (by omega))⟩⟩) (fun n => ?_)
    · rw [nI_clamp (by omega)]
    · have := n j hj rfl
      rw [b] at this; cases this
  · unfold wpY_price
    dsimp only
    refine my_there v1 (fun j hj e b => ?_) (fun _ => br_t rfl ⟨rfl, I'⟩)
    have := n j hj e
    rw [b] at this; cases this
theorem mz_back {ρ : Nat → Nat} {s x : Nat} : mj_nu (mj_nu ρ s x) s (ρ s) = ρ := by
  funext i
  unfold mj_nu
  by_cases e : i = s
  · rw [if_pos e, e]
  · rw [if_neg e, if_neg e]
theorem mz_at (α : Nat → Nat) {s : Nat} (h : s < 2 ^ 31) : mz_f α (nI s).toNatClampNeg = nI (α s) := by
  rw [nI_clamp h]; rfl
theorem i_vc_loss {k : Nat} {u : SX} {v : SY} (I : i_Rel k u v) (hk : k + 4 ≤ 2050) (v1 : Int32) : wpX_loss (fun r u' => wpY_loss (fun r' v' => r' = r ∧ i_Rel (k + 4) u' v') v v1) u v1 := by
  have I' := i_up I
  obtain ⟨cc, m, ρ, φ, τ, ω, tr, tw, lo, hi, ca, rfl, rfl, h⟩ := I
  have hm := mz_m h
  unfold wpX_loss wpX_isSlot
  dsimp only
  by_cases hx : v1 < 0
  · exact br_t hx (br_t rfl (by unfold wpY_loss; exact br_t hx ⟨rfl, I'⟩))
  · obtain ⟨s, hs, rfl⟩ := nI_of hx
    refine br_f hx (pk_le 12 s (fun g => br_t rfl (by unfold wpY_loss; exact br_f hx (pk_lt 11 s (fun _ => ⟨rfl, I'⟩) (fun g' => absurd g' (by omega))))) (fun g => br_f (by decide) ⟨pk_in s 12 g, ?_⟩))
    have r3 := h.2.2.2.1 s
    refine pk_eq (ρ s) 0 (fun e => ?_) (fun e => ?_) (mz_at ρ hs) rfl (by omega) (by omega)
    · unfold wpY_loss
      dsimp only
      exact br_f hx (pk_lt 11 s (fun g' => absurd g' (by omega)) (fun _ => ⟨pk_in s 12 g, pk_eq (ρ s) 0 (fun _ => ⟨rfl, I'⟩) (fun g' => absurd e g') (mz_at ρ hs) rfl (by omega) (by omega)⟩))
    · refine mx_st fun tr' tw' h1 h2 => ?_
      have ox := mz_ox h h1 h2
      have oy := mz_oy h
      have ed : tr' (nI s).toNatClampNeg - 1 = nI (ρ s - 1) := mx_dec (mt_at ox.2.2.2.2.1 g) (by omega)
      refine mx_tot ox hm h.2.2.2.2.2.2.2 ⟨pk_in s 12 g, pk_in s 12 g, nm_e ?_⟩
      refine mx_tot (mx_ok_r ox (x := ρ s - 1) (by omega) ed g) hm h.2.2.2.2.2.2.2 ?_
      unfold wpY_loss
      dsimp only
      refine br_f hx (pk_lt 11 s (fun g' => absurd g' (by omega)) (fun _ => ⟨pk_in s 12 g, pk_eq (ρ s) 0 (fun g' => absurd g' e) (fun _ => ?_) (mz_at ρ hs) rfl (by omega) (by omega)⟩))
      refine my_total oy hm fun lo1 hi1 ca1 => ⟨pk_in s 12 g, pk_in s 12 g, ?_⟩
      have er : mz_f ρ (nI s).toNatClampNeg - 1 = nI (ρ s - 1) := mx_dec (mz_at ρ hs) (by omega)
      refine nm_r (e' := mz_f (mj_nu ρ s (ρ s - 1))) (by rw [er, mz_up hs]) ?_
      have oy2 := my_OK_r oy (x := ρ s - 1) (by omega) er g
      rw [er, mz_up hs] at oy2
      refine my_total oy2 hm fun lo2 hi2 ca2 => ⟨pk_in s 12 g, pk_in s 12 g, nm_r (e' := mz_f ρ) ?_ ⟨rfl, mz_rel h⟩⟩
      obtain ⟨q, hq⟩ : ∃ q, ρ s = q + 1 := ⟨ρ s - 1, by omega⟩
      dsimp only
      rw [mz_at _ hs, mj_nus, nI_1, mz_up hs]
      have : ρ s - 1 + 1 = ρ s := by omega
      rw [this, mz_back]
theorem i_vc_gain {k : Nat} {u : SX} {v : SY} (I : i_Rel k u v) (hk : k + 4 ≤ 2050) (v1 : Int32) : wpX_gain (fun r u' => wpY_gain (fun r' v' => r' = r ∧ i_Rel (k + 4) u' v') v v1) u v1 := by
  have I' := i_up I
  obtain ⟨cc, m, ρ, φ, τ, ω, tr, tw, lo, hi, ca, rfl, rfl, h⟩ := I
  have hm := mz_m h
  unfold wpX_gain wpX_isSlot
  dsimp only
  by_cases hx : v1 < 0
  · exact br_t hx (br_t rfl (by unfold wpY_gain; exact br_t hx ⟨rfl, I'⟩))
  · obtain ⟨s, hs, rfl⟩ := nI_of hx
    refine br_f hx (pk_le 12 s (fun g => br_t rfl (by unfold wpY_gain; exact br_f hx (pk_le s 11 (fun g' => absurd g' (by omega)) (fun _ => ⟨rfl, I'⟩)))) (fun g => br_f (by decide) ?_))
    have r3 := h.2.2.2.1 s
    refine mx_st fun tr' tw' h1 h2 => ?_
    have ox := mz_ox h h1 h2
    have oy := mz_oy h
    have ed : tr' (nI s).toNatClampNeg + 1 = nI (ρ s + 1) := by rw [mt_at ox.2.2.2.2.1 g, nI_1]
    refine mx_tot ox hm h.2.2.2.2.2.2.2 ⟨pk_in s 12 g, pk_in s 12 g, nm_e ?_⟩
    refine mx_tot (mx_ok_r ox (x := ρ s + 1) (by omega) ed g) hm h.2.2.2.2.2.2.2 ?_
    unfold wpY_gain
    dsimp only
    refine br_f hx (pk_le s 11 (fun _ => ?_) (fun g' => absurd g' (by omega)))
    refine my_total oy hm fun lo1 hi1 ca1 => ⟨pk_in s 12 g, pk_in s 12 g, ?_⟩
    have er : mz_f ρ (nI s).toNatClampNeg + 1 = nI (ρ s + 1) := by rw [mz_at ρ hs, nI_1]
    refine nm_r (e' := mz_f (mj_nu ρ s (ρ s + 1))) (by rw [er, mz_up hs]) ?_
    have oy2 := my_OK_r oy (x := ρ s + 1) (by omega) er g
    rw [er, mz_up hs] at oy2
    refine my_total oy2 hm fun lo2 hi2 ca2 => ⟨pk_in s 12 g, pk_in s 12 g, nm_r (e' := mz_f ρ) ?_ ⟨rfl, mz_rel h⟩⟩
    dsimp only
    rw [mz_at _ hs, mj_nus, nI_pred, mz_up hs, mz_back]
theorem i_vc_slotOf {k : Nat} {u : SX} {v : SY} (I : i_Rel k u v) (hk : k + 4 ≤ 2050) (v1 : Int32) : wpX_slotOf (fun r u' => wpY_slotOf (fun r' v' => r' = r ∧ i_Rel (k + 4) u' v') v v1) u v1 := by
  obtain ⟨cc, m, ρ, φ, τ, ω, tr, tw, lo, hi, ca, rfl, rfl, h⟩ := I
  have hm := mz_m h
  have oy := mz_oy h
  have op := mj_best_sp φ τ ρ ω m
  unfold wpX_slotOf
  dsimp only
  refine mx_st fun tr' tw' h1 h2 => ?_
  have ox := mz_ox h h1 h2
  refine mx_best ox hm h.2.2.2.2.2.2.2 op ?_
  refine mx_isin op.1 v1 (fun j hj e b => br_f (by decide) ?_) (fun n => br_t rfl ?_)
  · subst e
    refine ⟨j + 1, mx_s21 op.1 hj b op.2.2.1 oy.2.1 (fun tr2 => ?_) j 0 tr' (by omega) ox⟩
    unfold wpY_slotOf
    dsimp only
    refine my_chosen oy hm fun lo' hi' ca' g1 g2 => ?_
    dsimp only
    refine my_there (nI j) (fun i _ e' b' => br_f (by decide) ?_) (fun n => ?_)
    · rw [mt_shr _ op.1 j hj, b]
      refine br_f (by decide) ⟨j + 2, my_sl28 oy op.1 hj b op.2.2.1 (fun lo2 hi2 ca2 => ⟨rfl, mz_rel h⟩) (j + 1) 0 (-1) lo' hi' ca' (by omega) (fun g => absurd g (by omega)) ?_⟩
      rw [my_la_0, my_la_0]
      exact ⟨g1, g2, oy.2.2.2.2.1, oy.2.2.2.2.2.1⟩
    · have := n j hj rfl
      rw [op.2.1 j b] at this; cases this
  · unfold wpY_slotOf
    dsimp only
    refine my_chosen oy hm fun lo' hi' ca' g1 g2 => ?_
    dsimp only
    refine my_there v1 (fun j hj e b => br_f (by decide) ?_) (fun _ => br_t rfl ⟨rfl, mz_rel h⟩)
    subst e
    rw [mt_shr _ op.1 j hj, n j hj rfl]
    exact br_t (by decide) ⟨rfl, mz_rel h⟩
theorem i_vc_bring {k : Nat} {u : SX} {v : SY} (I : i_Rel k u v) (hk : k + 4 ≤ 2050) (v1 : Int32) (v2 : Int32) (v3 : Int32) : wpX_bring (fun r u' => wpY_bring (fun r' v' => r' = r ∧ i_Rel (k + 4) u' v') v v1 v2 v3) u v1 v2 v3 := by
  have I' := i_up I
  obtain ⟨cc, m, ρ, φ, τ, ω, tr, tw, lo, hi, ca, rfl, rfl, h⟩ := I
  have hm := mz_m h
  unfold wpX_bring wpX_isWorth wpY_bring
  dsimp only
  by_cases c1 : v1 < 0
  · exact br_t c1 (br_t c1 ⟨rfl, I'⟩)
  refine br_f c1 ?_
  by_cases c2 : v2 < v1
  · exact br_t c2 (br_f c1 (br_t c2 ⟨rfl, I'⟩))
  refine br_f c2 ?_
  have c2' : ¬ v2 < 0 := fun q => c2 (Int32.lt_of_lt_of_le q (Int32.not_lt.mp c1))
  obtain ⟨a, ha, rfl⟩ := nI_of c1
  obtain ⟨b, hb, rfl⟩ := nI_of c2'
  have ab : a ≤ b := by
    rcases Nat.lt_or_ge b a with q | q
    · exact absurd (nI_lt q ha) c2
    · exact q
  refine pk_le 12 b (fun g => br_f c1 (br_f c2 (pk_lt 11 b (fun _ => ⟨rfl, I'⟩) (fun g' => absurd g' (by omega))))) (fun g => ?_)
  by_cases c3 : v3 < 1
  · exact br_t c3 (br_t rfl (br_f c1 (br_f c2 (pk_lt 11 b (fun g' => absurd g' (by omega)) (fun _ => br_t c3 ⟨rfl, I'⟩)))))
  refine br_f c3 ?_
  have c3' : ¬ v3 < 0 := fun q => c3 (Int32.lt_trans q (by decide))
  obtain ⟨w, hw, rfl⟩ := nI_of c3'
  have w1 : 1 ≤ w := by
    rcases Nat.lt_or_ge w 1 with q | q
    · exact absurd (nI_lt q (by omega)) c3
    · exact q
  refine pk_lt 20 w (fun g2 => br_t rfl (br_f c1 (br_f c2 (pk_lt 11 b (fun g' => absurd g' (by omega)) (fun _ => br_f c3 (pk_le w 20 (fun g' => absurd g' (by omega)) (fun _ => ⟨rfl, I'⟩))))))) (fun g2 => br_f (by decide) ?_)
  have h' := h
  obtain ⟨h1, h2, h3, h4, h5, h6, h7, h8⟩ := h'
  refine mx_lf hm h2 (fun j hj hbl hbj => ?_) (fun hall => ?_)
  · have j7 : j < 7 := by omega
    refine br_f (fun q => ?_) ?_
    · have : nI j < 0 := by rw [q]; decide
      exact absurd this (nI_pos (by omega))
    refine nm_r (mt_or m hm j j7) ⟨pk_in j 7 j7, nm_r (mz_up (by omega)) ⟨pk_in j 7 j7, nm_r (mz_up (by omega)) ⟨pk_in j 7 j7, nm_r (mz_up (by omega)) ?_⟩⟩⟩
    refine br_f c1 (br_f c2 (pk_lt 11 b (fun g' => absurd g' (by omega)) (fun _ => br_f c3 (pk_le w 20 (fun _ => ⟨8, my_b31 (fun i hi' hbi hbi' => ?_) 7 0 rfl lt_0⟩) (fun g' => absurd g' (by omega))))))
    have ij : i = j := by
      rcases Nat.lt_trichotomy i j with q | q | q
      · have a1 := hbl i q
        rw [hbi' (by omega)] at a1; cases a1
      · exact q
      · have a1 := hbi j q
        rw [hbj] at a1; cases a1
    subst ij
    have fr := mt_free cc (by omega) m hm h3 i hj hbj
    unfold wY_bring_54
    refine my_inUse (pk_le cc (mj_ct m) (fun g' => absurd g' (by omega)) (fun _ => pk_lt i 7 (fun _ => ?_) (fun g' => absurd g' (by omega))) rfl rfl (by omega) (by omega))
    refine ⟨pk_in i 7 j7, nm_r (my_hb_or j7) ⟨pk_in i 7 j7, nm_r (mz_up (by omega)) ⟨pk_in i 7 j7, nm_r (mz_up (by omega)) ⟨pk_in i 7 j7, nm_r (mz_up (by omega)) ⟨rfl, mz_rel ?_⟩⟩⟩⟩⟩
    refine ⟨h1, h2, mt_fre2 h3 hj, h4, fun s => ?_, fun s => ?_, fun s => ?_, fun s hs => ?_⟩
    · have := h5 s
      unfold mj_nu
      split <;> omega
    · have := h6 s
      unfold mj_nu
      split <;> omega
    · have := h7 s
      unfold mj_nu
      split <;> omega
    · unfold mj_nu
      split
      · exact w1
      · rename_i ne
        rcases (mj_tb_or m i s).mp hs with q | q
        · exact h8 s q
        · exact absurd q ne
  · have fu := mt_full cc (by omega) m hm hall
    have f7 := mj_sm_1 (mj_ms m) 7
    refine br_t rfl (br_f c1 (br_f c2 (pk_lt 11 b (fun g' => absurd g' (by omega)) (fun _ => br_f c3 (pk_le w 20 (fun _ => ⟨8, my_b31 (fun i hi' hbi hbi' => ?_) 7 0 rfl lt_0⟩) (fun g' => absurd g' (by omega)))))))
    unfold wY_bring_54
    have f8 : mj_ct m ≤ 7 := f7
    exact my_inUse (pk_le cc (mj_ct m) (fun _ => ⟨rfl, I'⟩) (fun g' => absurd g' (by omega)) rfl rfl (by omega) (by omega))
end
