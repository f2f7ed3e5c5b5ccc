/-! the relation; what is owed, but for the long questions -/
def mz_f (α : Nat → Nat) : Nat → Int32 := fun i => nI (α i)
def mz_in (cc m : Nat) (ρ φ τ ω : Nat → Nat) : Prop :=
  1 ≤ cc ∧ cc ≤ 7 ∧ m < 2 ^ cc ∧ (∀ s, ρ s ≤ 3) ∧ (∀ i, φ i ≤ 11) ∧ (∀ i, τ i ≤ 11) ∧ (∀ i, ω i ≤ 20) ∧ ∀ i, m.testBit i = true → 1 ≤ ω i
/-- the two objects hold the same: capacity, rooms, windows, worths; the jobs as a mask and as flags; the rest is scratch -/
def i_Rel (k : Nat) (u : SX) (v : SY) : Prop :=
  ∃ (cc m : Nat) (ρ φ τ ω : Nat → Nat) (tr tw lo hi ca : Nat → Int32), u = (nI cc, nI m, mz_f ρ, mz_f φ, mz_f τ, mz_f ω, tr, tw) ∧ v = (nI cc, mz_f ρ, my_hb m, mz_f φ, mz_f τ, mz_f ω, lo, hi, ca) ∧ mz_in cc m ρ φ τ ω
theorem i_up {k : Nat} {u : SX} {v : SY} (h : i_Rel k u v) : i_Rel (k + 4) u v := h
theorem mz_rel {k cc m : Nat} {ρ φ τ ω : Nat → Nat} {tr tw lo hi ca : Nat → Int32} (h : mz_in cc m ρ φ τ ω) : i_Rel k (nI cc, nI m, mz_f ρ, mz_f φ, mz_f τ, mz_f ω, tr, tw) (nI cc, mz_f ρ, my_hb m, mz_f φ, mz_f τ, mz_f ω, lo, hi, ca) :=
  ⟨cc, m, ρ, φ, τ, ω, tr, tw, lo, hi, ca, rfl, rfl, h⟩
theorem mz_m {cc m : Nat} {ρ φ τ ω : Nat → Nat} (h : mz_in cc m ρ φ τ ω) : m < 128 :=
  Nat.lt_of_lt_of_le h.2.2.1 (Nat.pow_le_pow_right (by omega) h.2.1 : 2 ^ cc ≤ 2 ^ 7)
theorem mz_up {α : Nat → Nat} {j x : Nat} (hj : j < 2 ^ 31) : upd (mz_f α) (nI j).toNatClampNeg (nI x) = mz_f (mj_nu α j x) := by
  rw [nI_clamp hj]
  funext i
  unfold upd mz_f mj_nu
  split <;> rfl
theorem my_hb_cl {m j : Nat} (hm : m < 128) (hj : j < 7) : upd (my_hb m) (nI j).toNatClampNeg (vp_nar .boolean 0) = my_hb (mj_cl m j) := by
  rw [nI_clamp (by omega), mt_vn0]
  funext i
  have e := congrFun (mj_ms_cl hm j) i
  unfold mj_ms mj_rm at e
  unfold upd my_hb
  rw [e]
  by_cases g : i = j
  · rw [if_pos g]; simp [g]; decide
  · rw [if_neg g]; simp [g]
theorem my_hb_or {m j : Nat} (hj : j < 7) : upd (my_hb m) (nI j).toNatClampNeg (vp_nar .boolean 1) = my_hb (m ||| 2 ^ j) := by
  rw [nI_clamp (by omega), mt_vn1]
  funext i
  have e := congrFun (mj_ms_or m j) i
  unfold mj_ms mj_ad at e
  unfold upd my_hb
  rw [e]
  by_cases g : i = j
  · rw [if_pos g]; simp [g]; decide
  · rw [if_neg g]; simp [g]
theorem mz_cl (x : Int32) (a b : Nat) (hab : a ≤ b) (hb : b < 2 ^ 31) : ∃ v, a ≤ v ∧ v ≤ b ∧ ∀ A : Int32 → Prop, A (nI v) → ((nI a ≤ x → ((x ≤ nI b → A x) ∧ (¬ x ≤ nI b → A (nI b)))) ∧ (¬ nI a ≤ x → A (nI a))) := by
  by_cases h1 : nI a ≤ x
  · have h0 : ¬ x < 0 := fun h => by
      have := Int32.lt_of_le_of_lt h1 h
      exact absurd this (nI_pos (by omega))
    obtain ⟨j, hj, rfl⟩ := nI_of h0
    rw [nI_leI (by omega) hj] at h1
    by_cases h2 : nI j ≤ nI b
    · refine ⟨j, h1, (nI_leI hj hb).mp h2, fun A h => br_t (nI_le h1 hj) (br_t h2 h)⟩
    · exact ⟨b, hab, Nat.le_refl _, fun A h => br_t (nI_le h1 hj) (br_f h2 h)⟩
  · exact ⟨a, Nat.le_refl _, hab, fun A h => br_f h1 h⟩
def mz_c (n k : Nat) : Nat → Nat := fun s => if s < k then n else 0
theorem mz_cs (n i : Nat) : mj_nu (mz_c n i) i n = mz_c n (i + 1) := by
  funext s
  unfold mj_nu mz_c
  by_cases h : s = i
  · rw [if_pos h, if_pos (by omega)]
  · rw [if_neg h]
    by_cases g : s < i
    · rw [if_pos g, if_pos (by omega)]
    · rw [if_neg g, if_neg (by omega)]
theorem mz_c0 (n : Nat) : (fun _ => (0 : Int32)) = mz_f (mz_c n 0) := by
  funext s
  unfold mz_f mz_c
  rw [if_neg (by omega)]
  rfl
theorem mz_xi78 {post : SX → Prop} {cI : Int32} {n : Nat} {F T V tr tw : Nat → Int32} (h : post (cI, 0, mz_f (mz_c n 12), F, T, V, tr, tw)) :
    ∀ d i : Nat, i + d = 12 → wX_init_78 post (nI n) cI 0 (d + 1) (nI i) (mz_f (mz_c n i)) F T V tr tw := by
  intro d
  induction d with
  | zero =>
    intro i hd
    have e : i = 12 := by omega
    subst e
    exact pk_le 12 12 (fun _ => h) (fun g => absurd g (by omega))
  | succ d ih =>
    intro i hd
    refine pk_le 12 i (fun g => absurd g (by omega)) (fun _ => ⟨pk_in i 12 (by omega), nm_r ?_ (nm_r (nI_1 i) (ih (i + 1) (by omega)))⟩)
    rw [mz_up (by omega), mz_cs]
theorem mz_yi116 {post : SY → Prop} {cI : Int32} {n : Nat} {hd Fr To Va lo hi ca : Nat → Int32} (h : post (cI, mz_f (mz_c n 12), hd, Fr, To, Va, lo, hi, ca)) :
    ∀ d i : Nat, i + d = 12 → wY_init_116 post (nI n) cI (d + 1) (nI i) (mz_f (mz_c n i)) hd Fr To Va lo hi ca := by
  intro d
  induction d with
  | zero =>
    intro i hd
    have e : i = 12 := by omega
    subst e
    exact pk_le 12 12 (fun _ => h) (fun g => absurd g (by omega))
  | succ d ih =>
    intro i hd
    refine pk_le 12 i (fun g => absurd g (by omega)) (fun _ => ⟨pk_in i 12 (by omega), nm_r ?_ (nm_r (nI_1 i) (ih (i + 1) (by omega)))⟩)
    rw [mz_up (by omega), mz_cs]
theorem mz_rel0 {cc n : Nat} (h1 : 1 ≤ cc) (h7 : cc ≤ 7) (hn : n ≤ 3) : i_Rel 2 (nI cc, 0, mz_f (mz_c n 12), fun _ => 0, fun _ => 0, fun _ => 0, fun _ => 0, fun _ => 0) (nI cc, mz_f (mz_c n 12), fun _ => 0, fun _ => 0, fun _ => 0, fun _ => 0, fun _ => 0, fun _ => 0, fun _ => 0) := by
  refine ⟨cc, 0, mz_c n 12, mz_c 0 0, mz_c 0 0, mz_c 0 0, fun _ => 0, fun _ => 0, fun _ => 0, fun _ => 0, fun _ => 0, ?_, ?_, h1, h7, Nat.pow_pos (by omega), fun s => ?_, fun i => ?_, fun i => ?_, fun i => ?_, fun i hi => ?_⟩
  · rw [← mz_c0 0]; rfl
  · have e : my_hb 0 = fun _ => 0 := by
      funext i
      unfold my_hb
      rw [Nat.zero_testBit]; decide
    rw [← mz_c0 0, e]
  · unfold mz_c; split <;> omega
  · unfold mz_c; split <;> omega
  · unfold mz_c; split <;> omega
  · unfold mz_c; split <;> omega
  · rw [Nat.zero_testBit] at hi; cases hi
theorem i_vc0 (k0 : Int32) (k1 : Int32) : wpX_init (fun u => wpY_init (fun v => i_Rel 2 u v) k0 k1) k0 k1 := by
  obtain ⟨cc, c1, c7, hc⟩ := mz_cl k0 1 7 (by omega) (by omega)
  obtain ⟨n, _, n3, hn⟩ := mz_cl k1 0 3 (by omega) (by omega)
  unfold wpX_init
  refine hc (fun r1 => wpX_clamp (fun r2 => ∃ n78 : Nat, wX_init_78 (fun u => wpY_init (fun v => i_Rel 2 u v) k0 k1) r2 r1 0 n78 0 (fun _ => 0) (fun _ => 0) (fun _ => 0) (fun _ => 0) (fun _ => 0) (fun _ => 0)) k1 0 3) ?_
  refine hn (fun r2 => ∃ n78 : Nat, wX_init_78 (fun u => wpY_init (fun v => i_Rel 2 u v) k0 k1) r2 (nI cc) 0 n78 0 (fun _ => 0) (fun _ => 0) (fun _ => 0) (fun _ => 0) (fun _ => 0) (fun _ => 0)) ⟨13, ?_⟩
  have z := mz_xi78 (post := fun u => wpY_init (fun v => i_Rel 2 u v) k0 k1) (cI := nI cc) (n := n) (F := fun _ => 0) (T := fun _ => 0) (V := fun _ => 0) (tr := fun _ => 0) (tw := fun _ => 0) ?_ 12 0 rfl
  · rw [← mz_c0 n] at z
    exact z
  · unfold wpY_init
    refine hc (fun z => wY_init_91 _ k1 z 0 _ _ _ _ _ _ _ _) ?_
    unfold wY_init_91
    refine hn (fun z => ∃ n116 : Nat, wY_init_116 _ z (nI cc) n116 0 _ _ _ _ _ _ _ _) ⟨13, ?_⟩
    have y := mz_yi116 (post := fun v => i_Rel 2 (nI cc, 0, mz_f (mz_c n 12), fun _ => 0, fun _ => 0, fun _ => 0, fun _ => 0, fun _ => 0) v) (cI := nI cc) (n := n) (hd := fun _ => 0) (Fr := fun _ => 0) (To := fun _ => 0) (Va := fun _ => 0) (lo := fun _ => 0) (hi := fun _ => 0) (ca := fun _ => 0) (mz_rel0 c1 c7 n3) 12 0 rfl
    rw [← mz_c0 n] at y
    exact y
theorem i_vc_jobs {k : Nat} {u : SX} {v : SY} (I : i_Rel k u v) (hk : k + 4 ≤ 2050) : wpX_jobs (fun r => wpY_jobs (fun r' => r' = r ∧ i_Rel (k + 4) u v) v) u := by
  have I' := i_up I
  obtain ⟨cc, m, ρ, φ, τ, ω, tr, tw, lo, hi, ca, rfl, rfl, h⟩ := I
  unfold wpX_jobs
  dsimp only
  exact my_jobs (mz_m h) ⟨rfl, I'⟩
theorem i_vc_room {k : Nat} {u : SX} {v : SY} (I : i_Rel k u v) (hk : k + 4 ≤ 2050) (v1 : Int32) : wpX_room (fun r => wpY_room (fun r' => r' = r ∧ i_Rel (k + 4) u v) v v1) u v1 := by
  have I' := i_up I
  obtain ⟨cc, m, ρ, φ, τ, ω, tr, tw, lo, hi, ca, rfl, rfl, h⟩ := I
  unfold wpX_room
  dsimp only
  by_cases hx : v1 < 0
  · exact br_t hx (br_t rfl (br_t hx ⟨rfl, I'⟩))
  · obtain ⟨j, hj, rfl⟩ := nI_of hx
    exact br_f hx (pk_le 12 j (fun g => br_t rfl (br_f hx (pk_le j 11 (fun g' => absurd g' (by omega)) (fun _ => ⟨rfl, I'⟩)))) (fun g => br_f (by decide) ⟨pk_in j 12 g, br_f hx (pk_le j 11 (fun _ => ⟨pk_in j 12 g, rfl, I'⟩) (fun g' => absurd g' (by omega)))⟩))
theorem i_vc_worth {k : Nat} {u : SX} {v : SY} (I : i_Rel k u v) (hk : k + 4 ≤ 2050) (v1 : Int32) : wpX_worth (fun r => wpY_worth (fun r' => r' = r ∧ i_Rel (k + 4) u v) v v1) u v1 := by
  have I' := i_up I
  obtain ⟨cc, m, ρ, φ, τ, ω, tr, tw, lo, hi, ca, rfl, rfl, h⟩ := I
  unfold wpX_worth wpY_worth
  dsimp only
  refine mx_isin (mz_m h) v1 (fun j hj e b => br_f (by decide) ⟨pk_in j 7 hj e, ?_⟩) (fun n => br_t rfl ?_)
  · refine my_there v1 (fun i hi' e' b' => br_f (by decide) ⟨pk_in j 7 hj e, rfl, I'⟩) (fun n => ?_)
    have := n j hj e
    rw [b] at this; cases this
  · refine my_there v1 (fun j hj e b => ?_) (fun _ => br_t rfl ⟨rfl, I'⟩)
    have := n j hj e
    rw [b] at this; cases this
theorem i_vc_take {k : Nat} {u : SX} {v : SY} (I : i_Rel k u v) (hk : k + 4 ≤ 2050) (v1 : Int32) : wpX_take (fun r u' => wpY_take (fun r' v' => r' = r ∧ i_Rel (k + 4) u' v') v v1) u v1 := by
  have I' := i_up I
  obtain ⟨cc, m, ρ, φ, τ, ω, tr, tw, lo, hi, ca, rfl, rfl, h⟩ := I
  have hm := mz_m h
  unfold wpX_take wpY_take
  dsimp only
  refine mx_isin hm v1 (fun j hj e b => br_f (by decide) ?_) (fun n => br_t rfl ?_)
  · subst e
    refine nm_r (mt_cl m hm j hj) ?_
    refine my_there (nI j) (fun i hi' e' b' => br_f (by decide) ⟨pk_in j 7 hj, nm_r (my_hb_cl hm hj) ⟨rfl, mz_rel ?_⟩⟩) (fun n => ?_)
    · obtain ⟨h1, h2, h3, h4, h5, h6, h7, h8⟩ := h
      exact ⟨h1, h2, Nat.lt_of_le_of_lt Nat.and_le_left h3, h4, h5, h6, h7, fun i hi => h8 i ((mj_tb_cl hm j i).mp hi).1⟩
    · have := n j hj rfl
      rw [b] at this; cases this
  · refine my_there v1 (fun j hj e b => ?_) (fun _ => br_t rfl ⟨rfl, I'⟩)
    have := n j hj e
    rw [b] at this; cases this
theorem i_vc_setRoom {k : Nat} {u : SX} {v : SY} (I : i_Rel k u v) (hk : k + 4 ≤ 2050) (v1 : Int32) (v2 : Int32) : wpX_setRoom (fun r u' => wpY_setRoom (fun r' v' => r' = r ∧ i_Rel (k + 4) u' v') v v1 v2) u v1 v2 := by
  have I' := i_up I
  obtain ⟨cc, m, ρ, φ, τ, ω, tr, tw, lo, hi, ca, rfl, rfl, h⟩ := I
  unfold wpX_setRoom wpX_isSlot wpY_setRoom
  dsimp only
  by_cases hx : v1 < 0
  · exact br_t hx (br_t rfl (br_t hx ⟨rfl, I'⟩))
  · obtain ⟨j, hj, rfl⟩ := nI_of hx
    refine br_f hx (pk_le 12 j (fun g => br_t rfl (br_f hx (pk_lt 11 j (fun _ => ⟨rfl, I'⟩) (fun g' => absurd g' (by omega))))) (fun g => br_f (by decide) ?_))
    by_cases hy : v2 < 0
    · exact br_t hy (br_f hx (pk_lt 11 j (fun g' => absurd g' (by omega)) (fun _ => br_t hy ⟨rfl, I'⟩)))
    · obtain ⟨x, hx', rfl⟩ := nI_of hy
      refine br_f hy (pk_le x 3 (fun g3 => ⟨pk_in j 12 g, nm_r (mz_up hj) (br_f hx (pk_lt 11 j (fun g' => absurd g' (by omega)) (fun _ => br_f hy (pk_le x 3 (fun _ => ⟨pk_in j 12 g, nm_r (mz_up hj) ⟨rfl, mz_rel ?_⟩⟩) (fun g' => absurd g' (by omega))))))⟩) (fun g3 => br_f hx (pk_lt 11 j (fun g' => absurd g' (by omega)) (fun _ => br_f hy (pk_le x 3 (fun g' => absurd g' (by omega)) (fun _ => ⟨rfl, I'⟩))))))
      obtain ⟨h1, h2, h3, h4, h5, h6, h7, h8⟩ := h
      refine ⟨h1, h2, h3, fun s => ?_, h5, h6, h7, h8⟩
      have := h4 s
      unfold mj_nu
      split <;> omega
theorem i_vc_revalue {k : Nat} {u : SX} {v : SY} (I : i_Rel k u v) (hk : k + 4 ≤ 2050) (v1 : Int32) (v2 : Int32) : wpX_revalue (fun r u' => wpY_revalue (fun r' v' => r' = r ∧ i_Rel (k + 4) u' v') v v1 v2) u v1 v2 := by
  have I' := i_up I
  obtain ⟨cc, m, ρ, φ, τ, ω, tr, tw, lo, hi, ca, rfl, rfl, h⟩ := I
  have hm := mz_m h
  unfold wpX_revalue wpX_isWorth wpY_revalue
  dsimp only
  refine mx_isin hm v1 (fun j hj e b => br_f (by decide) ?_) (fun n => br_t rfl ?_)
  · subst e
    have th : ∀ P : Int32 → Prop, P 1 → wpY_there P (nI cc, mz_f ρ, my_hb m, mz_f φ, mz_f τ, mz_f ω, lo, hi, ca) (nI j) := fun P hP => my_there (nI j) (fun _ _ _ _ => hP) (fun n => by
      have := n j hj rfl
      rw [b] at this; cases this)
    by_cases hy : v2 < 1
    · exact br_t hy (br_t rfl (th _ (br_f (by decide) (br_t hy ⟨rfl, I'⟩))))
    · have hy0 : ¬ v2 < 0 := fun q => hy (Int32.lt_trans q (by decide))
      obtain ⟨x, hx', rfl⟩ := nI_of hy0
      have x1 : 1 ≤ x := by
        rcases Nat.lt_or_ge x 1 with q | q
        · exact absurd (nI_lt q (by omega)) hy
        · exact q
      refine br_f hy (pk_lt 20 x (fun g => br_t rfl (th _ (br_f (by decide) (br_f hy (pk_le x 20 (fun g' => absurd g' (by omega)) (fun _ => ⟨rfl, I'⟩)))))) (fun g => br_f (by decide) ⟨pk_in j 7 hj, nm_r (mz_up (by omega)) (th _ (br_f (by decide) (br_f hy (pk_le x 20 (fun _ => ⟨pk_in j 7 hj, nm_r (mz_up (by omega)) ⟨rfl, mz_rel ?_⟩⟩) (fun g' => absurd g' (by omega))))))⟩))
      obtain ⟨h1, h2, h3, h4, h5, h6, h7, h8⟩ := h
      refine ⟨h1, h2, h3, h4, h5, h6, fun s => ?_, fun i hi => ?_⟩
      · have := h7 s
        unfold mj_nu
        split <;> omega
      · have := h8 i hi
        unfold mj_nu
        split <;> omega
  · refine my_there v1 (fun j hj e b => ?_) (fun _ => br_t rfl ⟨rfl, I'⟩)
    have := n j hj e
    rw [b] at this; cases this
