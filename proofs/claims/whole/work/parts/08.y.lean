/-! the reference's other methods -/
def my_hb (m : Nat) : Nat → Int32 := fun i => nI (if m.testBit i = true then 1 else 0)
def my_OK (φ τ ρ ω : Nat → Nat) (Rm Fr To Va : Nat → Int32) : Prop :=
  (∀ s, s < 12 → Rm s = nI (ρ s)) ∧ (∀ s, s < 12 → ρ s ≤ 4) ∧ (∀ i, i < 7 → Fr i = nI (φ i)) ∧ (∀ i, i < 7 → To i = nI (τ i)) ∧ (∀ i, i < 7 → φ i ≤ 11) ∧ (∀ i, i < 7 → τ i ≤ 11) ∧
  (∀ i, i < 7 → Va i = nI (ω i)) ∧ (∀ i, i < 7 → ω i ≤ 20)
theorem mt_jb : ∀ m : Nat, m < 128 → ∀ j : Nat, j < 7 → (m.testBit j = true → nI (m % 2 ^ j) ||| ((1 : Int32) <<< (nI j &&& 31)) = nI (m % 2 ^ (j + 1))) ∧ (m.testBit j = false → nI (m % 2 ^ j) ||| 0 = nI (m % 2 ^ (j + 1))) := by decide +kernel
theorem my_hb0 (m : Nat) {j : Nat} (hj : j < 7) (h : m.testBit j = false) : my_hb m (nI j).toNatClampNeg = 0 := by
  rw [nI_clamp (by omega)]
  show nI (if m.testBit j = true then 1 else 0) = 0
  rw [h]; decide
theorem my_hb1 (m : Nat) {j : Nat} (hj : j < 7) (h : m.testBit j = true) : ¬ my_hb m (nI j).toNatClampNeg = 0 := by
  rw [nI_clamp (by omega)]
  show ¬ nI (if m.testBit j = true then 1 else 0) = 0
  rw [h]; decide
section
variable {cp : Int32} {Rm hd Fr To Va lo hi ca : Nat → Int32} {φ τ ρ ω : Nat → Nat} {m : Nat}
theorem my_there {post : Int32 → Prop} (x : Int32) (h1 : ∀ j, j < 7 → x = nI j → m.testBit j = true → post 1) (h0 : (∀ j, j < 7 → x = nI j → m.testBit j = false) → post 0) :
    wpY_there post (cp, Rm, my_hb m, Fr, To, Va, lo, hi, ca) x := by
  by_cases hx : x < 0
  · refine br_t hx (h0 fun j hj e => ?_)
    subst e
    exact absurd hx (nI_pos (by omega))
  · obtain ⟨j, hj, rfl⟩ := nI_of hx
    refine br_f hx (pk_le 7 j (fun g => h0 fun i hi e => ?_) (fun g => ⟨pk_in j 7 g, ?_⟩))
    · rw [nI_eq hj (by omega)] at e
      omega
    · cases b : m.testBit j with
      | true => exact br_f (my_hb1 m g b) (h1 j g rfl b)
      | false =>
        refine br_t (my_hb0 m g b) (h0 fun i hi e => ?_)
        rw [nI_eq hj (by omega)] at e
        rw [← e]; exact b
theorem my_j4 {post : Int32 → Prop} (hm : m < 128) (h : post (nI m)) : ∀ d i : Nat, i + d = 7 → wY_jobs_4 post cp Rm (my_hb m) Fr To Va lo hi ca (d + 1) (nI (m % 2 ^ i)) (nI i) := by
  intro d
  induction d with
  | zero =>
    intro i hd'
    have e : i = 7 := by omega
    subst e
    refine pk_le 7 7 (fun _ => ?_) (fun g => absurd g (by omega))
    rw [Nat.mod_eq_of_lt (show m < 2 ^ 7 from hm)]
    exact h
  | succ d ih =>
    intro i hd'
    have hi : i < 7 := by omega
    have n := ih (i + 1) (by omega)
    have t := mt_jb m hm i hi
    refine pk_le 7 i (fun g => absurd g (by omega)) (fun _ => ⟨pk_in i 7 hi, ?_⟩)
    cases b : m.testBit i with
    | true => exact br_f (my_hb1 m hi b) (nm_r (t.1 b) (nm_r (nI_1 i) n))
    | false => exact br_t (my_hb0 m hi b) (nm_r (t.2 b) (nm_r (nI_1 i) n))
theorem my_jobs {post : Int32 → Prop} (hm : m < 128) (h : post (nI m)) : wpY_jobs post (cp, Rm, my_hb m, Fr, To, Va, lo, hi, ca) := by
  refine ⟨8, ?_⟩
  have := my_j4 (cp := cp) (Rm := Rm) (Fr := Fr) (To := To) (Va := Va) (lo := lo) (hi := hi) (ca := ca) hm h 7 0 rfl
  rw [Nat.pow_zero, Nat.mod_one] at this
  exact this
theorem my_ask2 {post : SY → Prop} (h : ∀ lo' hi' : Nat → Int32, (∀ i, i < 7 → lo' i = Fr i) → (∀ i, i < 7 → hi' i = To i) → post (cp, Rm, hd, Fr, To, Va, lo', hi', ca)) :
    ∀ (d i : Nat) (lo hi : Nat → Int32), i + d = 7 → (∀ k, k < i → lo k = Fr k) → (∀ k, k < i → hi k = To k) → wY_ask_2 post cp (d + 1) (nI i) Rm hd Fr To Va lo hi ca := by
  intro d
  induction d with
  | zero =>
    intro i lo hi hd' h1 h2
    have e : i = 7 := by omega
    subst e
    exact pk_le 7 7 (fun _ => h lo hi h1 h2) (fun g => absurd g (by omega))
  | succ d ih =>
    intro i lo hi hd' h1 h2
    have hi' : i < 7 := by omega
    refine pk_le 7 i (fun g => absurd g (by omega)) (fun _ => ⟨pk_in i 7 hi', pk_in i 7 hi', nm_e ⟨pk_in i 7 hi', pk_in i 7 hi', nm_e (nm_r (nI_1 i) (ih (i + 1) _ _ (by omega) (lt_s (fun k hk => ?_) ?_) (lt_s (fun k hk => ?_) ?_)))⟩⟩)
    · rw [nI_clamp (by omega), pk_un (by omega)]; exact h1 k hk
    · rw [nI_clamp (by omega), pk_us]
    · rw [nI_clamp (by omega), pk_un (by omega)]; exact h2 k hk
    · rw [nI_clamp (by omega), pk_us]
theorem my_ask {post : SY → Prop} (h : ∀ lo' hi' : Nat → Int32, (∀ i, i < 7 → lo' i = Fr i) → (∀ i, i < 7 → hi' i = To i) → post (cp, Rm, hd, Fr, To, Va, lo', hi', ca)) :
    wpY_ask post (cp, Rm, hd, Fr, To, Va, lo, hi, ca) := ⟨8, my_ask2 h 7 0 lo hi rfl lt_0 lt_0⟩
theorem my_w4 {post : Int32 → Prop} (hV : ∀ i, i < 7 → Va i = nI (ω i)) {a : Nat} (ha : a < 128) (h : post (nI (mj_sm ω (mj_ms a) 7))) :
    ∀ d i : Nat, i + d = 7 → wY_worthOf_4 post (nI a) cp Rm hd Fr To Va lo hi ca (d + 1) (nI (mj_sm ω (mj_ms a) i)) (nI i) := by
  intro d
  induction d with
  | zero =>
    intro i hd'
    have e : i = 7 := by omega
    subst e
    exact pk_le 7 7 (fun _ => h) (fun g => absurd g (by omega))
  | succ d ih =>
    intro i hd'
    have hi' : i < 7 := by omega
    have n := ih (i + 1) (by omega)
    refine pk_le 7 i (fun g => absurd g (by omega)) (fun _ => ?_)
    rw [mt_shr a ha i hi']
    cases b : a.testBit i with
    | true =>
      refine br_t (by decide) ⟨pk_in i 7 hi', nm_r ?_ (nm_r (nI_1 i) n)⟩
      rw [mt_at hV hi', nI_add, mj_sm]
      simp [mj_ms, b]
    | false =>
      refine br_f (by decide) (nm_r ?_ (nm_r (nI_1 i) n))
      rw [Int32.add_zero, mj_sm]
      simp [mj_ms, b]
theorem my_worth {post : Int32 → Prop} (hV : ∀ i, i < 7 → Va i = nI (ω i)) {a : Nat} (ha : a < 128) (h : post (nI (mj_sm ω (mj_ms a) 7))) :
    wpY_worthOf post (cp, Rm, hd, Fr, To, Va, lo, hi, ca) (nI a) := ⟨8, my_w4 hV ha h 7 0 rfl⟩
theorem mj_sm_b {ω : Nat → Nat} (h : ∀ i, i < 7 → ω i ≤ 20) (W : Nat → Bool) : ∀ n : Nat, n ≤ 7 → mj_sm ω W n ≤ 20 * n
  | 0, _ => Nat.le_refl _
  | n + 1, hn => by
    have a := mj_sm_b h W n (by omega)
    have b := h n (by omega)
    rw [mj_sm]
    split <;> omega
theorem my_b34 {post : Int32 → Prop} {a b : Nat} (ha : a < 128) (hb : b < 128) : ∀ d j : Nat, j + d = 7 → (mj_rv b d < mj_rv a d → post 1) → (mj_rv a d ≤ mj_rv b d → post 0) →
    wY_before_34 post (nI a) (nI b) cp Rm hd Fr To Va lo hi ca (d + 1) (nI j) := by
  intro d
  induction d with
  | zero =>
    intro j hd' h1 h0
    exact pk_le 7 j (fun _ => h0 (Nat.le_refl _)) (fun g => absurd g (by omega))
  | succ d ih =>
    intro j hd' h1 h0
    have hj : j < 7 := by omega
    have e : 6 - d = j := by omega
    rw [mj_rv, mj_rv, e] at h1 h0
    have n := ih (j + 1) (by omega)
    have la := mj_rv_lt a d
    have lb := mj_rv_lt b d
    refine pk_le 7 j (fun g => absurd g (by omega)) (fun _ => ?_)
    rw [mt_shr a ha j hj, mt_shr b hb j hj]
    cases x : a.testBit j <;> cases y : b.testBit j <;> simp only [x, y, if_true, if_false, Bool.false_eq_true] at h1 h0 ⊢
    · exact br_t (by trivial) (nm_r (nI_1 j) (n (fun g => h1 (by omega)) (fun g => h0 (by omega))))
    · exact br_f (by decide) (br_f (by decide) (h0 (by omega)))
    · exact br_f (by decide) (br_t (by decide) (h1 (by omega)))
    · exact br_t (by trivial) (nm_r (nI_1 j) (n (fun g => h1 (by omega)) (fun g => h0 (by omega))))
theorem my_before {post : Int32 → Prop} (hV : ∀ i, i < 7 → Va i = nI (ω i)) (hw : ∀ i, i < 7 → ω i ≤ 20) {a b : Nat} (ha : a < 128) (hb : b < 128)
    (h1 : mj_sm (mj_k ω) (mj_ms b) 7 < mj_sm (mj_k ω) (mj_ms a) 7 → post 1) (h0 : mj_sm (mj_k ω) (mj_ms a) 7 ≤ mj_sm (mj_k ω) (mj_ms b) 7 → post 0) :
    wpY_before post (cp, Rm, hd, Fr, To, Va, lo, hi, ca) (nI a) (nI b) := by
  rw [mj_key, mj_key] at h1 h0
  have la := mj_rv_lt a 7
  have lb := mj_rv_lt b 7
  have sa := mj_sm_b hw (mj_ms a) 7 (Nat.le_refl _)
  have sb := mj_sm_b hw (mj_ms b) 7 (Nat.le_refl _)
  unfold wpY_before
  refine my_worth hV ha (my_worth hV hb ?_)
  refine pk_eq (mj_sm ω (mj_ms a) 7) (mj_sm ω (mj_ms b) 7) (fun e => ⟨8, my_b34 ha hb 7 0 rfl (fun g => h1 (by omega)) (fun g => h0 (by omega))⟩) (fun e => ?_) rfl rfl (by omega) (by omega)
  exact pk_le (mj_sm ω (mj_ms a) 7) (mj_sm ω (mj_ms b) 7) (fun g => h0 (by omega)) (fun g => h1 (by omega)) rfl rfl (by omega) (by omega)
theorem my_c18 {post : Int32 → SY → Prop} (H : my_OK φ τ ρ ω Rm Fr To Va) {us : Nat → Nat → Prop} {L : List Nat} {o : Nat} (ho : mj_opt us L (mj_k ω) m o) (ht : my_tab ca (my_P us m L))
    (h : post (nI o) (cp, Rm, hd, Fr, To, Va, lo, hi, ca)) :
    ∀ d x b : Nat, x + d = 128 → b < x → my_P us m L b → (∀ w, w < x → my_P us m L w → mj_sm (mj_k ω) (mj_ms w) 7 ≤ mj_sm (mj_k ω) (mj_ms b) 7) →
    wY_chosen_18 post cp Rm hd Fr To Va lo hi ca (d + 1) (nI b) (nI x) := by
  obtain ⟨hR, hr, hF, hT, hf, ht', hV, hw⟩ := H
  intro d
  induction d with
  | zero =>
    intro x b hd' hb hP hmx
    refine pk_le 128 x (fun _ => ?_) (fun g => absurd g (by omega))
    have e : b = o := mj_opt_u ⟨by omega, hP.1, hP.2, fun w hw a c => hmx w (by omega) ⟨a, c⟩⟩ ho
    rw [e]
    exact h
  | succ d ih =>
    intro x b hd' hb hP hmx
    have hx : x < 128 := by omega
    refine pk_le 128 x (fun g => absurd g (by omega)) (fun _ => ⟨pk_in x 128 hx, ?_⟩)
    rcases ht x hx with ⟨p1, p2⟩ | ⟨p1, p2⟩
    · refine br_f (by rw [nI_clamp (by omega), p2]; decide) (my_before hV hw hx (by omega) (fun g => br_f (by decide) (nm_r (nI_1 x) (ih (x + 1) x (by omega) (by omega) p1 (lt_s (fun w hw q => ?_) fun _ => Nat.le_refl _)))) (fun g => br_t rfl (nm_r (nI_1 x) (ih (x + 1) b (by omega) (by omega) hP (lt_s hmx fun _ => g)))))
      have := hmx w hw q
      omega
    · exact br_t (by rw [nI_clamp (by omega), p2]) (nm_r (nI_1 x) (ih (x + 1) b (by omega) (by omega) hP (lt_s hmx fun q => absurd q p1)))
theorem my_chosen {post : Int32 → SY → Prop} (H : my_OK φ τ ρ ω Rm Fr To Va) (hm : m < 128)
    (h : ∀ lo' hi' ca' : Nat → Int32, (∀ i, i < 7 → lo' i = nI (φ i)) → (∀ i, i < 7 → hi' i = nI (τ i)) → post (nI (mj_best φ τ ρ ω m)) (cp, Rm, my_hb m, Fr, To, Va, lo', hi', ca')) :
    wpY_chosen post (cp, Rm, my_hb m, Fr, To, Va, lo, hi, ca) := by
  have H' := H
  obtain ⟨hR, hr, hF, hT, hf, ht, hV, hw⟩ := H'
  unfold wpY_chosen
  dsimp only
  refine my_ask fun lo' hi' h1 h2 => ?_
  have h1' : ∀ i, i < 7 → lo' i = nI (φ i) := fun i hi => (h1 i hi).trans (hF i hi)
  have h2' : ∀ i, i < 7 → hi' i = nI (τ i) := fun i hi => (h2 i hi).trans (hT i hi)
  refine my_jobs hm ?_
  refine my_sweep (la := φ) (et := τ) ⟨h1', h2', hf, ht⟩ hR hr hm fun ca' tb => ?_
  refine ⟨128, my_c18 H (mj_best_sp φ τ ρ ω m) tb (h lo' hi' ca' h1' h2') 127 1 0 rfl (by omega) ?_ (fun w hw' _ => ?_)⟩
  · exact ⟨fun i q => by simp at q, mj_G0 _ _ (fun i => by simp [mj_ms]) _⟩
  · have e : w = 0 := by omega
    rw [e]; exact Nat.le_refl _
theorem my_total {post : Int32 → SY → Prop} (H : my_OK φ τ ρ ω Rm Fr To Va) (hm : m < 128)
    (h : ∀ lo' hi' ca' : Nat → Int32, post (nI (mj_sm ω (mj_ms (mj_best φ τ ρ ω m)) 7)) (cp, Rm, my_hb m, Fr, To, Va, lo', hi', ca')) :
    wpY_total post (cp, Rm, my_hb m, Fr, To, Va, lo, hi, ca) := by
  unfold wpY_total
  dsimp only
  exact my_chosen H hm fun lo' hi' ca' _ _ => my_worth H.2.2.2.2.2.2.1 (mj_best_sp φ τ ρ ω m).1 (h lo' hi' ca')
end
