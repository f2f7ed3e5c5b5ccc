/-! the component's other methods -/
variable {c p : Int32} {R F T V tr tw : Nat → Int32} {φ τ ρ ω : Nat → Nat}
theorem mx_isin {post : Int32 → Prop} {m : Nat} (hm : m < 128) (x : Int32) (h1 : ∀ j, j < 7 → x = nI j → m.testBit j = true → post 1) (h0 : (∀ j, j < 7 → x = nI j → m.testBit j = false) → post 0) :
    wpX_isIn post (nI m) x := by
  by_cases hx : x < 0
  · refine br_t hx (h0 fun j hj e => ?_)
    subst e
    exact absurd hx (nI_pos (by omega))
  · obtain ⟨j, hj, rfl⟩ := nI_of hx
    refine br_f hx (pk_le 7 j (fun g => h0 fun i hi e => ?_) (fun g => br_c (fun b => h0 fun i hi e => ?_) (fun b => h1 j g rfl ?_)))
    · rw [nI_eq hj (by omega)] at e
      omega
    · rw [nI_eq hj (by omega)] at e
      subst e
      exact (mt_bit m hm j g).mp b
    · cases a : m.testBit j with
      | true => rfl
      | false => exact absurd ((mt_bit m hm j g).mpr a) b
theorem mx_isinj {post : Int32 → Prop} {m j : Nat} (hm : m < 128) (hj : j < 7) (h1 : m.testBit j = true → post 1) (h0 : m.testBit j = false → post 0) : wpX_isIn post (nI m) (nI j) :=
  mx_isin hm (nI j) (fun i hi e b => h1 (by rw [(nI_eq (by omega) (by omega)).mp e]; exact b)) (fun b => h0 (b j hj rfl))
theorem mx_st28 {post : SX → Prop} (h : ∀ tw' : Nat → Int32, (∀ i, i < 7 → tw' i = V i) → post (c, p, R, F, T, V, tr, tw')) :
    ∀ (d i : Nat) (tw : Nat → Int32), i + d = 7 → (∀ k, k < i → tw k = V k) → wX_startTrial_28 post c p (d + 1) (nI i) R F T V tr tw := by
  intro d
  induction d with
  | zero =>
    intro i tw hd hk
    have e : i = 7 := by omega
    subst e
    exact pk_le 7 7 (fun _ => h tw hk) (fun g => absurd g (by omega))
  | succ d ih =>
    intro i tw hd hk
    have hi : i < 7 := by omega
    refine pk_le 7 i (fun g => absurd g (by omega)) (fun _ => ⟨pk_in i 7 hi, pk_in i 7 hi, nm_e (nm_r (nI_1 i) (ih (i + 1) _ (by omega) (lt_s (fun k hk' => ?_) ?_)))⟩)
    · rw [nI_clamp (by omega), pk_un (by omega)]; exact hk k hk'
    · rw [nI_clamp (by omega), pk_us]
theorem mx_st2 {post : SX → Prop} (h : ∀ tr' tw' : Nat → Int32, (∀ s, s < 12 → tr' s = R s) → (∀ i, i < 7 → tw' i = V i) → post (c, p, R, F, T, V, tr', tw')) :
    ∀ (d i : Nat) (tr : Nat → Int32), i + d = 12 → (∀ k, k < i → tr k = R k) → wX_startTrial_2 post c p (d + 1) (nI i) R F T V tr tw := by
  intro d
  induction d with
  | zero =>
    intro i tr hd hk
    have e : i = 12 := by omega
    subst e
    exact pk_le 12 12 (fun _ => ⟨8, mx_st28 (fun tw' htw => h tr tw' hk htw) 7 0 tw rfl lt_0⟩) (fun g => absurd g (by omega))
  | succ d ih =>
    intro i tr hd hk
    have hi : i < 12 := by omega
    refine pk_le 12 i (fun g => absurd g (by omega)) (fun _ => ⟨pk_in i 12 hi, pk_in i 12 hi, nm_e (nm_r (nI_1 i) (ih (i + 1) _ (by omega) (lt_s (fun k hk' => ?_) ?_)))⟩)
    · rw [nI_clamp (by omega), pk_un (by omega)]; exact hk k hk'
    · rw [nI_clamp (by omega), pk_us]
theorem mx_st {post : SX → Prop} (h : ∀ tr' tw' : Nat → Int32, (∀ s, s < 12 → tr' s = R s) → (∀ i, i < 7 → tw' i = V i) → post (c, p, R, F, T, V, tr', tw')) :
    wpX_startTrial post (c, p, R, F, T, V, tr, tw) := ⟨13, mx_st2 h 12 0 tr rfl lt_0⟩
theorem mx_t9 {post : Int32 → Prop} (H : mx_ok φ τ ρ ω F T tr tw) {o : Nat} (ho : o < 128) (hp : post (nI (mj_sm ω (mj_ms o) 7))) :
    ∀ d i : Nat, i + d = 7 → wX_bestTotal_9 post (nI o) c p R F T V tr tw (d + 1) (nI (mj_sm ω (mj_ms o) i)) (nI i) := by
  intro d
  induction d with
  | zero =>
    intro i hd
    have e : i = 7 := by omega
    subst e
    exact pk_le 7 7 (fun _ => hp) (fun g => absurd g (by omega))
  | succ d ih =>
    intro i hd
    have hi : i < 7 := by omega
    have n := ih (i + 1) (by omega)
    refine pk_le 7 i (fun g => absurd g (by omega)) (fun _ => mx_isinj ho hi (fun b => br_f (by decide) ⟨pk_in i 7 hi, nm_r ?_ (nm_r (nI_1 i) n)⟩) (fun b => br_t rfl (nm_r (nI_1 i) ?_)))
    · rw [mt_at H.2.2.2.2.2.2.1 hi, nI_add, mj_sm]
      simp [mj_ms, b]
    · rw [mj_sm] at n
      simp [mj_ms, b] at n
      exact n
theorem mx_tot {post : Int32 → Prop} (H : mx_ok φ τ ρ ω F T tr tw) {pm : Nat} (hm : pm < 128) (hw : ∀ i, pm.testBit i = true → 1 ≤ ω i) (hp : post (nI (mj_sm ω (mj_ms (mj_best φ τ ρ ω pm)) 7))) :
    wpX_bestTotal post (c, nI pm, R, F, T, V, tr, tw) := by
  unfold wpX_bestTotal
  have ho := mj_best_sp φ τ ρ ω pm
  exact mx_best H hm hw ho ⟨8, mx_t9 H ho.1 hp 7 0 rfl⟩
/-- the price: the least worth that is chosen, or 21 -/
def mj_pr (B : Nat → Prop) (r : Nat) : Prop := 1 ≤ r ∧ r ≤ 21 ∧ (r ≤ 20 → B r) ∧ ∀ w, 1 ≤ w → w < r → ¬ B w
theorem mj_pr_u {B : Nat → Prop} {r q : Nat} (h : mj_pr B r) (g : mj_pr B q) : r = q := by
  obtain ⟨a1, a2, a3, a4⟩ := h
  obtain ⟨b1, b2, b3, b4⟩ := g
  rcases Nat.lt_trichotomy r q with e | e | e
  · exact absurd (a3 (by omega)) (b4 r a1 e)
  · exact e
  · exact absurd (b3 (by omega)) (a4 q b1 e)
def mj_pB (φ τ ρ ω : Nat → Nat) (pm j w : Nat) : Prop := (mj_best φ τ ρ (mj_nu ω j w) pm).testBit j = true
theorem mx_ok_w (H : mx_ok φ τ ρ ω F T tr tw) {tw' : Nat → Int32} {j w : Nat} (hj : j < 7) (hw : w ≤ 20) (h : ∀ k, k < 7 → k ≠ j → tw' k = nI (ω k)) : mx_ok φ τ ρ (mj_nu ω j w) F T tr (upd tw' (nI j).toNatClampNeg (nI w)) := by
  obtain ⟨h1, h2, h3, h4, h5, h6, h7, h8⟩ := H
  refine ⟨h1, h2, h3, h4, h5, h6, fun i hi => ?_, fun i hi => ?_⟩
  · rw [nI_clamp (by omega)]
    by_cases e : i = j
    · subst e; rw [pk_us, mj_nus]
    · rw [pk_un e, mj_nun e]; exact h i hi e
  · have := h8 i hi
    unfold mj_nu
    split <;> omega
theorem mx_pr19 {post : Int32 → SX → Prop} (H : mx_ok φ τ ρ ω F T tr tw) {pm j : Nat} (hm : pm < 128) (hj : j < 7) (hw : ∀ i, pm.testBit i = true → 1 ≤ ω i)
    (h : ∀ (r : Nat) (tw' : Nat → Int32), mj_pr (mj_pB φ τ ρ ω pm j) r → post (nI r) (c, nI pm, R, F, T, V, tr, tw')) :
    ∀ (d w : Nat) (tw' : Nat → Int32), w + d = 21 → 1 ≤ w → (∀ k, k < 7 → k ≠ j → tw' k = nI (ω k)) → (∀ x, 1 ≤ x → x < w → ¬ mj_pB φ τ ρ ω pm j x) →
    wX_price_19 post (nI j) c (nI pm) (d + 1) (nI w) R F T V tr tw' := by
  intro d
  induction d with
  | zero =>
    intro w tw' hd h1 hk hB
    have e : w = 21 := by omega
    subst e
    exact pk_lt 20 21 (fun _ => h 21 tw' ⟨by omega, by omega, fun g => absurd g (by omega), hB⟩) (fun g => absurd g (by omega))
  | succ d ih =>
    intro w tw' hd h1 hk hB
    refine pk_lt 20 w (fun g => absurd g (by omega)) (fun g => ⟨pk_in j 7 hj, nm_e ?_⟩)
    refine mx_best (mx_ok_w H hj g hk) hm (fun i hi => ?_) (mj_best_sp φ τ ρ (mj_nu ω j w) pm) ?_
    · have := hw i hi
      unfold mj_nu
      split <;> omega
    · refine mx_isinj (mj_best_sp φ τ ρ (mj_nu ω j w) pm).1 hj (fun b => br_f (by decide) (h w _ ⟨h1, by omega, fun _ => b, hB⟩)) (fun b => br_t rfl (nm_r (nI_1 w) (ih (w + 1) _ (by omega) (by omega) (fun k hk' ne => ?_) (fun x x1 x2 => ?_))))
      · rw [nI_clamp (by omega), pk_un ne]; exact hk k hk' ne
      · by_cases e : x = w
        · subst e
          intro q
          unfold mj_pB at q
          rw [b] at q; cases q
        · exact hB x x1 (by omega)
theorem mx_ok_r (H : mx_ok φ τ ρ ω F T tr tw) {s x : Nat} (hx : x ≤ 4) {y : Int32} (hy : y = nI x) (hs : s < 12) : mx_ok φ τ (mj_nu ρ s x) ω F T (upd tr (nI s).toNatClampNeg y) tw := by
  obtain ⟨h1, h2, h3, h4, h5, h6, h7, h8⟩ := H
  refine ⟨h1, h2, h3, h4, fun i hi => ?_, fun i hi => ?_, h7, h8⟩
  · rw [nI_clamp (by omega)]
    by_cases e : i = s
    · subst e; rw [pk_us, mj_nus]; exact hy
    · rw [pk_un e, mj_nun e]; exact h5 i hi
  · have := h6 i hi
    unfold mj_nu
    split <;> omega
theorem mx_dec {A : Nat → Int32} {n s : Nat} (h : A (nI s).toNatClampNeg = nI n) (h0 : 0 < n) : A (nI s).toNatClampNeg - 1 = nI (n - 1) := by
  obtain ⟨k, rfl⟩ : ∃ k, n = k + 1 := ⟨n - 1, by omega⟩
  rw [h, nI_pred]; rfl
theorem mx_oc {post : Int32 → SX → Prop} {j m s0 : Nat} (hj : j < 7) (hm : m < 128) (hc : mj_cond φ τ ρ j m s0) (hl : ∀ t, t < s0 → ¬ mj_cond φ τ ρ j m t)
    (h : ∀ tr' : Nat → Int32, mx_ok φ τ (mj_nu ρ s0 (ρ s0 - 1)) ω F T tr' tw → post (nI s0) (c, p, R, F, T, V, tr', tw)) :
    ∀ (d s : Nat) (tr : Nat → Int32), s + d = s0 → mx_ok φ τ ρ ω F T tr tw → wX_occupyFirstSlot_2 post (nI j) (nI m) c p (d + 1) (nI s) R F T V tr tw := by
  intro d
  induction d with
  | zero =>
    intro s tr hd H
    have e : s = s0 := by omega
    subst e
    obtain ⟨hu, h12, h0, hg⟩ := hc
    have H' := H
    obtain ⟨hF, hT, hf, ht, hR, hr, -⟩ := H'
    have f11 := hf j hj
    have t11 := ht j hj
    have r4 := hr s h12
    have u1 := hu.1
    have u2 := hu.2
    refine pk_le 12 s (fun g => absurd g (by omega)) (fun _ => ⟨pk_in j 7 hj, ?_⟩)
    refine pk_lt s (φ j) (fun g => absurd g (by omega)) (fun _ => ⟨pk_in j 7 hj, ?_⟩) rfl (mt_at hF hj) (by omega) (by omega)
    refine pk_lt (τ j) s (fun g => absurd g (by omega)) (fun _ => ?_) (mt_at hT hj) rfl (by omega) (by omega)
    refine br_f (by decide) ⟨pk_in s 12 h12, ?_⟩
    refine pk_le (ρ s) 0 (fun g => absurd g (by omega)) (fun _ => ⟨pk_in s 12 h12, pk_in s 12 h12, nm_e ?_⟩) (mt_at hR h12) rfl (by omega) (by omega)
    have H2 := mx_ok_r H (s := s) (x := ρ s - 1) (by omega) (mx_dec (mt_at hR h12) h0) h12
    exact mx_cp H2 hm (fun _ => br_f (by decide) (h _ H2)) (fun q => absurd hg q)
  | succ d ih =>
    intro s tr hd H
    have h12 : s < 12 := by have := hc.2.1; omega
    have H' := H
    obtain ⟨hF, hT, hf, ht, hR, hr, hW, hw⟩ := H'
    have f11 := hf j hj
    have t11 := ht j hj
    have r4 := hr s h12
    have no := hl s (by omega)
    have nx := ih (s + 1) tr (by omega) H
    refine pk_le 12 s (fun g => absurd g (by omega)) (fun _ => ⟨pk_in j 7 hj, ?_⟩)
    refine pk_lt s (φ j) (fun g => ?_) (fun u1 => ⟨pk_in j 7 hj, ?_⟩) rfl (mt_at hF hj) (by omega) (by omega)
    · exact br_t rfl (nm_r (nI_1 s) nx)
    refine pk_lt (τ j) s (fun g => ?_) (fun u2 => ?_) (mt_at hT hj) rfl (by omega) (by omega)
    · exact br_t rfl (nm_r (nI_1 s) nx)
    refine br_f (by decide) ⟨pk_in s 12 h12, ?_⟩
    refine pk_le (ρ s) 0 (fun g => nm_r (nI_1 s) nx) (fun h0 => ⟨pk_in s 12 h12, pk_in s 12 h12, nm_e ?_⟩) (mt_at hR h12) rfl (by omega) (by omega)
    have H2 := mx_ok_r H (s := s) (x := ρ s - 1) (by omega) (mx_dec (mt_at hR h12) h0) h12
    refine mx_cp H2 hm (fun q => absurd ⟨⟨u1, u2⟩, h12, h0, q⟩ no) (fun _ => br_t rfl ⟨pk_in s 12 h12, pk_in s 12 h12, nm_e (nm_r (nI_1 s) (ih (s + 1) _ (by omega) ?_))⟩)
    refine ⟨hF, hT, hf, ht, fun i hi => ?_, hr, hW, hw⟩
    rw [nI_clamp (by omega)]
    by_cases e : i = s
    · subst e
      rw [pk_us, pk_us, hR i hi]
      obtain ⟨k, hk⟩ : ∃ k, ρ i = k + 1 := ⟨ρ i - 1, by omega⟩
      rw [hk, nI_pred, nI_1]
    · rw [pk_un e, pk_un e]; exact hR i hi
theorem mx_occ {post : Int32 → SX → Prop} (H : mx_ok φ τ ρ ω F T tr tw) {j m s0 : Nat} (hj : j < 7) (hm : m < 128) (hc : mj_cond φ τ ρ j m s0) (hl : ∀ t, t < s0 → ¬ mj_cond φ τ ρ j m t)
    (h : ∀ tr' : Nat → Int32, mx_ok φ τ (mj_nu ρ s0 (ρ s0 - 1)) ω F T tr' tw → post (nI s0) (c, p, R, F, T, V, tr', tw)) :
    wpX_occupyFirstSlot post (c, p, R, F, T, V, tr, tw) (nI j) (nI m) := ⟨s0 + 1, mx_oc hj hm hc hl h s0 0 tr (by omega) H⟩
theorem mx_s21 {post : Int32 → SX → Prop} {o id : Nat} (ho : o < 128) (hid : id < 7) (hb : o.testBit id = true) (hg : mj_G (mj_us φ τ) (mj_pl ρ 12 0) (mj_ms o)) (hr : ∀ s, s < 12 → ρ s ≤ 4)
    (h : ∀ tr' : Nat → Int32, post (nI (mj_slot φ τ ρ o id)) (c, p, R, F, T, V, tr', tw)) :
    ∀ (d j : Nat) (tr : Nat → Int32), j + d = id → mx_ok φ τ (mj_run φ τ ρ o j) ω F T tr tw → wX_slotOf_21 post (nI id) (d + 1) (nI (mj_rest o j)) (nI j) c p R F T V tr tw := by
  intro d
  induction d with
  | zero =>
    intro j tr hd H
    have e : j = id := by omega
    subst e
    have sp := mj_slot_sp (j := j) ho hg hr hb
    refine pk_le j j (fun _ => nm_r (mt_cl _ (mj_rest_lt ho j) j hid) ?_) (fun g => absurd g (by omega))
    exact mx_occ H hid (mj_rest_lt ho (j + 1)) sp.1 sp.2 (fun tr' _ => h tr')
  | succ d ih =>
    intro j tr hd H
    have hj : j < 7 := by omega
    refine pk_le id j (fun g => absurd g (by omega)) (fun _ => mx_isinj (mj_rest_lt ho j) hj (fun b => br_f (by decide) (nm_r (mt_cl _ (mj_rest_lt ho j) j hj) ?_)) (fun b => br_t rfl (nm_r (nI_1 j) ?_)))
    · have e := ((mj_rest_b ho j j).mp b).1
      have sp := mj_slot_sp (j := j) ho hg hr e
      refine mx_occ H hj (mj_rest_lt ho (j + 1)) sp.1 sp.2 (fun tr' H' => nm_r (nI_1 j) (ih (j + 1) tr' (by omega) ?_))
      rw [mj_run_t e]
      exact H'
    · have e : o.testBit j = false := mj_nf fun q => by
        rw [(mj_rest_b ho j j).mpr ⟨q, Nat.le_refl _⟩] at b; cases b
      have n := ih (j + 1) tr (by omega) (by rw [mj_run_f e]; exact H)
      rw [mj_rest_f ho e] at n
      exact n
