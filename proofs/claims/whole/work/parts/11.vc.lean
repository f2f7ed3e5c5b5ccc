/-! what is owed: bring and the long questions -/
theorem mz_ox {cc m : Nat} {ρ φ τ ω : Nat → Nat} (h : mz_in cc m ρ φ τ ω) {tr tw : Nat → Int32} (h1 : ∀ s, s < 12 → tr s = mz_f ρ s) (h2 : ∀ i, i < 7 → tw i = mz_f ω i) : mx_ok φ τ ρ ω (mz_f φ) (mz_f τ) tr tw :=
  ⟨fun _ _ => rfl, fun _ _ => rfl, fun i _ => h.2.2.2.2.1 i, fun i _ => h.2.2.2.2.2.1 i, h1, fun s _ => Nat.le_trans (h.2.2.2.1 s) (by omega), h2, fun i _ => h.2.2.2.2.2.2.1 i⟩
theorem mz_oy {cc m : Nat} {ρ φ τ ω : Nat → Nat} (h : mz_in cc m ρ φ τ ω) : my_OK φ τ ρ ω (mz_f ρ) (mz_f φ) (mz_f τ) (mz_f ω) :=
  ⟨fun _ _ => rfl, fun s _ => Nat.le_trans (h.2.2.2.1 s) (by omega), fun _ _ => rfl, fun _ _ => rfl, fun i _ => h.2.2.2.2.1 i, fun i _ => h.2.2.2.2.2.1 i, fun _ _ => rfl, fun i _ => h.2.2.2.2.2.2.1 i⟩
theorem i_vc_chosen {k : Nat} {u : SX} {v : SY} (I : i_Rel k u v) (hk : k + 4 ≤ 2050) : wpX_chosen (fun r u' => wpY_chosen (fun r' v' => r' = r ∧ i_Rel (k + 4) u' v') v) u := by
  obtain ⟨cc, m, ρ, φ, τ, ω, tr, tw, lo, hi, ca, rfl, rfl, h⟩ := I
  have hm := mz_m h
  unfold wpX_chosen
  dsimp only
  refine mx_st fun tr' tw' h1 h2 => ?_
  exact mx_best (mz_ox h h1 h2) hm h.2.2.2.2.2.2.2 (mj_best_sp φ τ ρ ω m) (my_chosen (mz_oy h) hm fun lo' hi' ca' _ _ => ⟨rfl, mz_rel h⟩)
theorem i_vc_total {k : Nat} {u : SX} {v : SY} (I : i_Rel k u v) (hk : k + 4 ≤ 2050) : wpX_total (fun r u' => wpY_total (fun r' v' => r' = r ∧ i_Rel (k + 4) u' v') v) u := by
  obtain ⟨cc, m, ρ, φ, τ, ω, tr, tw, lo, hi, ca, rfl, rfl, h⟩ := I
  have hm := mz_m h
  unfold wpX_total
  dsimp only
  refine mx_st fun tr' tw' h1 h2 => ?_
  exact mx_tot (mz_ox h h1 h2) hm h.2.2.2.2.2.2.2 (my_total (mz_oy h) hm fun lo' hi' ca' => ⟨rfl, mz_rel h⟩)
theorem i_vc_fits {k : Nat} {u : SX} {v : SY} (I : i_Rel k u v) (hk : k + 4 ≤ 2050) (v1 : Int32) : wpX_fits (fun r u' => wpY_fits (fun r' v' => r' = r ∧ i_Rel (k + 4) u' v') v v1) u v1 := by
  have I' := i_up I
  obtain ⟨cc, m, ρ, φ, τ, ω, tr, tw, lo, hi, ca, rfl, rfl, h⟩ := I
  have hm := mz_m h
  have oy := mz_oy h
  unfold wpX_fits wpY_fits
  dsimp only
  refine br_c (fun g => ?_) (fun g => my_jobs hm (br_f g ⟨rfl, I'⟩))
  obtain ⟨w, hw, rfl, sb⟩ := mt_sub v1 hm g
  have yy : ∀ (x : Int32) (tr' tw' : Nat → Int32), ((mj_G (mj_us φ τ) (mj_pl ρ 12 0) (mj_ms w) ∧ x = 1) ∨ (¬ mj_G (mj_us φ τ) (mj_pl ρ 12 0) (mj_ms w) ∧ x = 0)) →
      wpY_fits (fun r' v' => r' = x ∧ i_Rel (k + 4) (nI cc, nI m, mz_f ρ, mz_f φ, mz_f τ, mz_f ω, tr', tw') v') (nI cc, mz_f ρ, my_hb m, mz_f φ, mz_f τ, mz_f ω, lo, hi, ca) (nI w) := by
    intro x tr' tw' hx
    unfold wpY_fits
    dsimp only
    refine my_jobs hm (br_t g ?_)
    refine my_ask fun lo' hi' h1 h2 => ?_
    refine my_sweep (la := φ) (et := τ) ⟨h1, h2, oy.2.2.2.2.1, oy.2.2.2.2.2.1⟩ oy.1 oy.2.1 hm fun ca' tb => ?_
    dsimp only
    rw [mt_127 w hw, nI_clamp (by omega)]
    rcases tb w hw with ⟨p1, p2⟩ | ⟨p1, p2⟩
    · rw [p2]
      rcases hx with ⟨_, e⟩ | ⟨q, _⟩
      · exact ⟨pk_in w 128 hw, mt_na1, e.symm, mz_rel h⟩
      · exact absurd p1.2 q
    · rw [p2]
      rcases hx with ⟨q, _⟩ | ⟨_, e⟩
      · exact absurd ⟨sb, q⟩ p1
      · exact ⟨pk_in w 128 hw, mt_na0, e.symm, mz_rel h⟩
  refine mx_st fun tr' tw' h1 h2 => ?_
  exact mx_cp (mz_ox h h1 h2) hw (fun q => ⟨mt_na1, yy 1 tr' tw' (.inl ⟨q, rfl⟩)⟩) (fun q => ⟨mt_na0, yy 0 tr' tw' (.inr ⟨q, rfl⟩)⟩)
theorem i_vc_price {k : Nat} {u : SX} {v : SY} (I : i_Rel k u v) (hk : k + 4 ≤ 2050) (v1 : Int32) : wpX_price (fun r u' => wpY_price (fun r' v' => r' = r ∧ i_Rel (k + 4) u' v') v v1) u v1 := by
  have I' := i_up I
  obtain ⟨cc, m, ρ, φ, τ, ω, tr, tw, lo, hi, ca, rfl, rfl, h⟩ := I
  have hm := mz_m h
  unfold wpX_price
  dsimp only
  refine mx_isin hm v1 (fun j hj e b => br_f (by decide) ?_) (fun n => br_t rfl ?_)
  · subst e
    refine mx_st fun tr' tw' h1 h2 => ⟨21, mx_pr19 (mz_ox h h1 h2) hm hj h.2.2.2.2.2.2.2 (fun r tw2 hr => ?_) 20 1 tw' rfl (by omega) (fun i hi' _ => h2 i hi') (fun x a c => absurd c (by omega))⟩
    unfold wpY_price
    dsimp only
    refine my_there (nI j) (fun i hi' e' b' => br_f (by decide) ⟨pk_in j 7 hj, nm_r (e' := mz_f ω j) ?_ ⟨21, my_pr24 (mz_oy h) hm hj hr (fun lo' hi' ca' => ⟨rfl, mz_rel h⟩) 20 21 _ lo hi ca (by omega) (fun _ _ => rfl) (by omega) (by omega) (fun g => absurd g (by omega)) (fun x a c => absurd c (by omega))⟩⟩) (fun n => ?_)
    · rw [nI_clamp (by omega)]
    · have := n j hj rfl
      rw [b] at this; cases this
  · unfold wpY_price
    dsimp only
    refine my_there v1 (fun j hj e b => ?_) (fun _ => br_t rfl ⟨rfl, I'⟩)
    have := n j hj e
    rw [b] at this; cases this
theorem mz_back {ρ : Nat → Nat} {s x : Nat} : mj_nu (mj_nu ρ s x) s (ρ s) = ρ := by
  funext i
  unfold mj_nu
  by_cases e : i = s
  · rw [if_pos e, e]
  · rw [if_neg e, if_neg e]
theorem mz_at (α : Nat → Nat) {s : Nat} (h : s < 2 ^ 31) : mz_f α (nI s).toNatClampNeg = nI (α s) := by
  rw [nI_clamp h]; rfl
theorem i_vc_loss {k : Nat} {u : SX} {v : SY} (I : i_Rel k u v) (hk : k + 4 ≤ 2050) (v1 : Int32) : wpX_loss (fun r u' => wpY_loss (fun r' v' => r' = r ∧ i_Rel (k + 4) u' v') v v1) u v1 := by
  have I' := i_up I
  obtain ⟨cc, m, ρ, φ, τ, ω, tr, tw, lo, hi, ca, rfl, rfl, h⟩ := I
  have hm := mz_m h
  unfold wpX_loss wpX_isSlot
  dsimp only
  by_cases hx : v1 < 0
  · exact br_t hx (br_t rfl (by unfold wpY_loss; exact br_t hx ⟨rfl, I'⟩))
  · obtain ⟨s, hs, rfl⟩ := nI_of hx
    refine br_f hx (pk_le 12 s (fun g => br_t rfl (by unfold wpY_loss; exact br_f hx (pk_lt 11 s (fun _ => ⟨rfl, I'⟩) (fun g' => absurd g' (by omega))))) (fun g => br_f (by decide) ⟨pk_in s 12 g, ?_⟩))
    have r3 := h.2.2.2.1 s
    refine pk_eq (ρ s) 0 (fun e => ?_) (fun e => ?_) (mz_at ρ hs) rfl (by omega) (by omega)
    · unfold wpY_loss
      dsimp only
      exact br_f hx (pk_lt 11 s (fun g' => absurd g' (by omega)) (fun _ => ⟨pk_in s 12 g, pk_eq (ρ s) 0 (fun _ => ⟨rfl, I'⟩) (fun g' => absurd e g') (mz_at ρ hs) rfl (by omega) (by omega)⟩))
    · refine mx_st fun tr' tw' h1 h2 => ?_
      have ox := mz_ox h h1 h2
      have oy := mz_oy h
      have ed : tr' (nI s).toNatClampNeg - 1 = nI (ρ s - 1) := mx_dec (mt_at ox.2.2.2.2.1 g) (by omega)
      refine mx_tot ox hm h.2.2.2.2.2.2.2 ⟨pk_in s 12 g, pk_in s 12 g, nm_e ?_⟩
      refine mx_tot (mx_ok_r ox (x := ρ s - 1) (by omega) ed g) hm h.2.2.2.2.2.2.2 ?_
      unfold wpY_loss
      dsimp only
      refine br_f hx (pk_lt 11 s (fun g' => absurd g' (by omega)) (fun _ => ⟨pk_in s 12 g, pk_eq (ρ s) 0 (fun g' => absurd g' e) (fun _ => ?_) (mz_at ρ hs) rfl (by omega) (by omega)⟩))
      refine my_total oy hm fun lo1 hi1 ca1 => ⟨pk_in s 12 g, pk_in s 12 g, ?_⟩
      have er : mz_f ρ (nI s).toNatClampNeg - 1 = nI (ρ s - 1) := mx_dec (mz_at ρ hs) (by omega)
      refine nm_r (e' := mz_f (mj_nu ρ s (ρ s - 1))) (by rw [er, mz_up hs]) ?_
      have oy2 := my_OK_r oy (x := ρ s - 1) (by omega) er g
      rw [er, mz_up hs] at oy2
      refine my_total oy2 hm fun lo2 hi2 ca2 => ⟨pk_in s 12 g, pk_in s 12 g, nm_r (e' := mz_f ρ) ?_ ⟨rfl, mz_rel h⟩⟩
      obtain ⟨q, hq⟩ : ∃ q, ρ s = q + 1 := ⟨ρ s - 1, by omega⟩
      dsimp only
      rw [mz_at _ hs, mj_nus, nI_1, mz_up hs]
      have : ρ s - 1 + 1 = ρ s := by omega
      rw [this, mz_back]
theorem i_vc_gain {k : Nat} {u : SX} {v : SY} (I : i_Rel k u v) (hk : k + 4 ≤ 2050) (v1 : Int32) : wpX_gain (fun r u' => wpY_gain (fun r' v' => r' = r ∧ i_Rel (k + 4) u' v') v v1) u v1 := by
  have I' := i_up I
  obtain ⟨cc, m, ρ, φ, τ, ω, tr, tw, lo, hi, ca, rfl, rfl, h⟩ := I
  have hm := mz_m h
  unfold wpX_gain wpX_isSlot
  dsimp only
  by_cases hx : v1 < 0
  · exact br_t hx (br_t rfl (by unfold wpY_gain; exact br_t hx ⟨rfl, I'⟩))
  · obtain ⟨s, hs, rfl⟩ := nI_of hx
    refine br_f hx (pk_le 12 s (fun g => br_t rfl (by unfold wpY_gain; exact br_f hx (pk_le s 11 (fun g' => absurd g' (by omega)) (fun _ => ⟨rfl, I'⟩)))) (fun g => br_f (by decide) ?_))
    have r3 := h.2.2.2.1 s
    refine mx_st fun tr' tw' h1 h2 => ?_
    have ox := mz_ox h h1 h2
    have oy := mz_oy h
    have ed : tr' (nI s).toNatClampNeg + 1 = nI (ρ s + 1) := by rw [mt_at ox.2.2.2.2.1 g, nI_1]
    refine mx_tot ox hm h.2.2.2.2.2.2.2 ⟨pk_in s 12 g, pk_in s 12 g, nm_e ?_⟩
    refine mx_tot (mx_ok_r ox (x := ρ s + 1) (by omega) ed g) hm h.2.2.2.2.2.2.2 ?_
    unfold wpY_gain
    dsimp only
    refine br_f hx (pk_le s 11 (fun _ => ?_) (fun g' => absurd g' (by omega)))
    refine my_total oy hm fun lo1 hi1 ca1 => ⟨pk_in s 12 g, pk_in s 12 g, ?_⟩
    have er : mz_f ρ (nI s).toNatClampNeg + 1 = nI (ρ s + 1) := by rw [mz_at ρ hs, nI_1]
    refine nm_r (e' := mz_f (mj_nu ρ s (ρ s + 1))) (by rw [er, mz_up hs]) ?_
    have oy2 := my_OK_r oy (x := ρ s + 1) (by omega) er g
    rw [er, mz_up hs] at oy2
    refine my_total oy2 hm fun lo2 hi2 ca2 => ⟨pk_in s 12 g, pk_in s 12 g, nm_r (e' := mz_f ρ) ?_ ⟨rfl, mz_rel h⟩⟩
    dsimp only
    rw [mz_at _ hs, mj_nus, nI_pred, mz_up hs, mz_back]
theorem i_vc_slotOf {k : Nat} {u : SX} {v : SY} (I : i_Rel k u v) (hk : k + 4 ≤ 2050) (v1 : Int32) : wpX_slotOf (fun r u' => wpY_slotOf (fun r' v' => r' = r ∧ i_Rel (k + 4) u' v') v v1) u v1 := by
  obtain ⟨cc, m, ρ, φ, τ, ω, tr, tw, lo, hi, ca, rfl, rfl, h⟩ := I
  have hm := mz_m h
  have oy := mz_oy h
  have op := mj_best_sp φ τ ρ ω m
  unfold wpX_slotOf
  dsimp only
  refine mx_st fun tr' tw' h1 h2 => ?_
  have ox := mz_ox h h1 h2
  refine mx_best ox hm h.2.2.2.2.2.2.2 op ?_
  refine mx_isin op.1 v1 (fun j hj e b => br_f (by decide) ?_) (fun n => br_t rfl ?_)
  · subst e
    refine ⟨j + 1, mx_s21 op.1 hj b op.2.2.1 oy.2.1 (fun tr2 => ?_) j 0 tr' (by omega) ox⟩
    unfold wpY_slotOf
    dsimp only
    refine my_chosen oy hm fun lo' hi' ca' g1 g2 => ?_
    dsimp only
    refine my_there (nI j) (fun i _ e' b' => br_f (by decide) ?_) (fun n => ?_)
    · rw [mt_shr _ op.1 j hj, b]
      refine br_f (by decide) ⟨j + 2, my_sl28 oy op.1 hj b op.2.2.1 (fun lo2 hi2 ca2 => ⟨rfl, mz_rel h⟩) (j + 1) 0 (-1) lo' hi' ca' (by omega) (fun g => absurd g (by omega)) ?_⟩
      rw [my_la_0, my_la_0]
      exact ⟨g1, g2, oy.2.2.2.2.1, oy.2.2.2.2.2.1⟩
    · have := n j hj rfl
      rw [op.2.1 j b] at this; cases this
  · unfold wpY_slotOf
    dsimp only
    refine my_chosen oy hm fun lo' hi' ca' g1 g2 => ?_
    dsimp only
    refine my_there v1 (fun j hj e b => br_f (by decide) ?_) (fun _ => br_t rfl ⟨rfl, mz_rel h⟩)
    subst e
    rw [mt_shr _ op.1 j hj, n j hj rfl]
    exact br_t (by decide) ⟨rfl, mz_rel h⟩
theorem i_vc_bring {k : Nat} {u : SX} {v : SY} (I : i_Rel k u v) (hk : k + 4 ≤ 2050) (v1 : Int32) (v2 : Int32) (v3 : Int32) : wpX_bring (fun r u' => wpY_bring (fun r' v' => r' = r ∧ i_Rel (k + 4) u' v') v v1 v2 v3) u v1 v2 v3 := by
  have I' := i_up I
  obtain ⟨cc, m, ρ, φ, τ, ω, tr, tw, lo, hi, ca, rfl, rfl, h⟩ := I
  have hm := mz_m h
  unfold wpX_bring wpX_isWorth wpY_bring
  dsimp only
  by_cases c1 : v1 < 0
  · exact br_t c1 (br_t c1 ⟨rfl, I'⟩)
  refine br_f c1 ?_
  by_cases c2 : v2 < v1
  · exact br_t c2 (br_f c1 (br_t c2 ⟨rfl, I'⟩))
  refine br_f c2 ?_
  have c2' : ¬ v2 < 0 := fun q => c2 (Int32.lt_of_lt_of_le q (Int32.not_lt.mp c1))
  obtain ⟨a, ha, rfl⟩ := nI_of c1
  obtain ⟨b, hb, rfl⟩ := nI_of c2'
  have ab : a ≤ b := by
    rcases Nat.lt_or_ge b a with q | q
    · exact absurd (nI_lt q ha) c2
    · exact q
  refine pk_le 12 b (fun g => br_f c1 (br_f c2 (pk_lt 11 b (fun _ => ⟨rfl, I'⟩) (fun g' => absurd g' (by omega))))) (fun g => ?_)
  by_cases c3 : v3 < 1
  · exact br_t c3 (br_t rfl (br_f c1 (br_f c2 (pk_lt 11 b (fun g' => absurd g' (by omega)) (fun _ => br_t c3 ⟨rfl, I'⟩)))))
  refine br_f c3 ?_
  have c3' : ¬ v3 < 0 := fun q => c3 (Int32.lt_trans q (by decide))
  obtain ⟨w, hw, rfl⟩ := nI_of c3'
  have w1 : 1 ≤ w := by
    rcases Nat.lt_or_ge w 1 with q | q
    · exact absurd (nI_lt q (by omega)) c3
    · exact q
  refine pk_lt 20 w (fun g2 => br_t rfl (br_f c1 (br_f c2 (pk_lt 11 b (fun g' => absurd g' (by omega)) (fun _ => br_f c3 (pk_le w 20 (fun g' => absurd g' (by omega)) (fun _ => ⟨rfl, I'⟩))))))) (fun g2 => br_f (by decide) ?_)
  have h' := h
  obtain ⟨h1, h2, h3, h4, h5, h6, h7, h8⟩ := h'
  refine mx_lf hm h2 (fun j hj hbl hbj => ?_) (fun hall => ?_)
  · have j7 : j < 7 := by omega
    refine br_f (fun q => ?_) ?_
    · have : nI j < 0 := by rw [q]; decide
      exact absurd this (nI_pos (by omega))
    refine nm_r (mt_or m hm j j7) ⟨pk_in j 7 j7, nm_r (mz_up (by omega)) ⟨pk_in j 7 j7, nm_r (mz_up (by omega)) ⟨pk_in j 7 j7, nm_r (mz_up (by omega)) ?_⟩⟩⟩
    refine br_f c1 (br_f c2 (pk_lt 11 b (fun g' => absurd g' (by omega)) (fun _ => br_f c3 (pk_le w 20 (fun _ => ⟨8, my_b31 (fun i hi' hbi hbi' => ?_) 7 0 rfl lt_0⟩) (fun g' => absurd g' (by omega))))))
    have ij : i = j := by
      rcases Nat.lt_trichotomy i j with q | q | q
      · have a1 := hbl i q
        rw [hbi' (by omega)] at a1; cases a1
      · exact q
      · have a1 := hbi j q
        rw [hbj] at a1; cases a1
    subst ij
    have fr := mt_free cc (by omega) m hm h3 i hj hbj
    unfold wY_bring_54
    refine my_inUse (pk_le cc (mj_ct m) (fun g' => absurd g' (by omega)) (fun _ => pk_lt i 7 (fun _ => ?_) (fun g' => absurd g' (by omega))) rfl rfl (by omega) (by omega))
    refine ⟨pk_in i 7 j7, nm_r (my_hb_or j7) ⟨pk_in i 7 j7, nm_r (mz_up (by omega)) ⟨pk_in i 7 j7, nm_r (mz_up (by omega)) ⟨pk_in i 7 j7, nm_r (mz_up (by omega)) ⟨rfl, mz_rel ?_⟩⟩⟩⟩⟩
    refine ⟨h1, h2, mt_fre2 h3 hj, h4, fun s => ?_, fun s => ?_, fun s => ?_, fun s hs => ?_⟩
    · have := h5 s
      unfold mj_nu
      split <;> omega
    · have := h6 s
      unfold mj_nu
      split <;> omega
    · have := h7 s
      unfold mj_nu
      split <;> omega
    · unfold mj_nu
      split
      · exact w1
      · rename_i ne
        rcases (mj_tb_or m i s).mp hs with q | q
        · exact h8 s q
        · exact absurd q ne
  · have fu := mt_full cc (by omega) m hm hall
    have f7 := mj_sm_1 (mj_ms m) 7
    refine br_t rfl (br_f c1 (br_f c2 (pk_lt 11 b (fun g' => absurd g' (by omega)) (fun _ => br_f c3 (pk_le w 20 (fun _ => ⟨8, my_b31 (fun i hi' hbi hbi' => ?_) 7 0 rfl lt_0⟩) (fun g' => absurd g' (by omega)))))))
    unfold wY_bring_54
    have f8 : mj_ct m ≤ 7 := f7
    exact my_inUse (pk_le cc (mj_ct m) (fun _ => ⟨rfl, I'⟩) (fun g' => absurd g' (by omega)) rfl rfl (by omega) (by omega))
