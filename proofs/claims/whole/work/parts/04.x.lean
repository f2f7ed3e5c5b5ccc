/-! the component's trial methods against the pictures -/
def mj_us (φ τ : Nat → Nat) : Nat → Nat → Prop := fun i s => φ i ≤ s ∧ s ≤ τ i
def mx_ok (φ τ ρ ω : Nat → Nat) (F T tr tw : Nat → Int32) : Prop :=
  (∀ i, i < 7 → F i = nI (φ i)) ∧ (∀ i, i < 7 → T i = nI (τ i)) ∧ (∀ i, i < 7 → φ i ≤ 11) ∧ (∀ i, i < 7 → τ i ≤ 11) ∧
  (∀ s, s < 12 → tr s = nI (ρ s)) ∧ (∀ s, s < 12 → ρ s ≤ 4) ∧ (∀ i, i < 7 → tw i = nI (ω i)) ∧ (∀ i, i < 7 → ω i ≤ 20)
variable {post : Int32 → Prop} {c p : Int32} {R F T V tr tw : Nat → Int32} {φ τ ρ ω : Nat → Nat}
theorem mx_u49 (H : mx_ok φ τ ρ ω F T tr tw) {J9 : Int32 → Int32 → Int32 → Prop} {m s i y : Nat} {x3 z : Int32} (hm : m < 128) (hi : i < 7) (hy : y ≤ 12)
    (hk : (m.testBit i = true → ¬ z = 0 → y ≤ τ i) → J9 x3 (nI y) (nI (i + 1)))
    (ht : m.testBit i = true → ¬ z = 0 → τ i < y → J9 ((1 : Int32) <<< (nI i &&& 31)) (nI (τ i)) (nI (i + 1))) :
    wX_mostUrgent_49 post J9 (nI m) (nI s) x3 (nI y) (nI i) ((1 : Int32) <<< (nI i &&& 31)) z c p R F T V tr tw := by
  obtain ⟨hF, hT, hf, ht', -⟩ := H
  have t11 := ht' i hi
  refine br_c (fun h => nm_r (nI_1 i) (hk fun a => ?_)) (fun h => br_c (fun hz => nm_r (nI_1 i) (hk fun _ b => absurd hz b)) (fun hz => ⟨pk_in i 7 hi, ?_⟩))
  · rw [(mt_bit m hm i hi).mp h] at a; cases a
  · have hb : m.testBit i = true := by
      cases a : m.testBit i with
      | true => rfl
      | false => exact absurd ((mt_bit m hm i hi).mpr a) h
    exact pk_le y (τ i) (fun g => nm_r (nI_1 i) (hk fun _ _ => g)) (fun g => ⟨pk_in i 7 hi, nm_r (mt_at hT hi) (nm_r (nI_1 i) (ht hb hz g))⟩) rfl (mt_at hT hi) (by omega) (by omega)
def mx_uS (φ τ : Nat → Nat) (m s i : Nat) (x3 : Int32) (y : Nat) : Prop :=
  (x3 = 0 ∧ y = 12 ∧ ∀ k, k < i → m.testBit k = true → ¬ mj_us φ τ k s) ∨
  ∃ j, j < i ∧ m.testBit j = true ∧ mj_us φ τ j s ∧ x3 = (1 : Int32) <<< (nI j &&& 31) ∧ y = τ j ∧ ∀ k, k < i → m.testBit k = true → mj_us φ τ k s → τ j ≤ τ k
theorem mx_u9 (H : mx_ok φ τ ρ ω F T tr tw) {m s : Nat} (hm : m < 128) (hs : s < 12)
    (h0 : (∀ k, k < 7 → m.testBit k = true → ¬ mj_us φ τ k s) → post 0)
    (h1 : ∀ j, j < 7 → m.testBit j = true → mj_us φ τ j s → (∀ k, k < 7 → m.testBit k = true → mj_us φ τ k s → τ j ≤ τ k) → post ((1 : Int32) <<< (nI j &&& 31))) :
    ∀ (d i : Nat) (x3 : Int32) (y : Nat), i + d = 7 → mx_uS φ τ m s i x3 y → wX_mostUrgent_9 post (nI m) (nI s) c p R F T V tr tw (d + 1) x3 (nI y) (nI i) := by
  intro d
  induction d with
  | zero =>
    intro i x3 y hd hS
    have e : i = 7 := by omega
    subst e
    refine pk_le 7 7 (fun _ => ?_) (fun h => absurd h (by omega))
    rcases hS with ⟨a, _, b⟩ | ⟨j, j7, a, b, e, _, g⟩
    · rw [a]; exact h0 b
    · rw [e]; exact h1 j j7 a b g
  | succ d ih =>
    intro i x3 y hd hS
    have hi : i < 7 := by omega
    have H' := H
    obtain ⟨hF, hT, hf, ht', -⟩ := H'
    have t11 := ht' i hi
    have f11 := hf i hi
    have y12 : y ≤ 12 := by
      rcases hS with ⟨_, a, _⟩ | ⟨j, j7, _, _, _, a, _⟩
      · omega
      · have := ht' j (by omega); omega
    have keep : (m.testBit i = true → mj_us φ τ i s → y ≤ τ i) → wX_mostUrgent_9 post (nI m) (nI s) c p R F T V tr tw (d + 1) x3 (nI y) (nI (i + 1)) := by
      intro hk
      refine ih (i + 1) x3 y (by omega) ?_
      rcases hS with ⟨a, b, g⟩ | ⟨j, j7, a, b, e, f, g⟩
      · refine .inl ⟨a, b, lt_s g fun q u => ?_⟩
        have := hk q u
        omega
      · exact .inr ⟨j, by omega, a, b, e, f, lt_s g fun q u => by have := hk q u; omega⟩
    have tak : m.testBit i = true → mj_us φ τ i s → τ i < y → wX_mostUrgent_9 post (nI m) (nI s) c p R F T V tr tw (d + 1) ((1 : Int32) <<< (nI i &&& 31)) (nI (τ i)) (nI (i + 1)) := by
      intro hb hu hy
      refine ih (i + 1) _ (τ i) (by omega) (.inr ⟨i, by omega, hb, hu, rfl, rfl, lt_s (fun k hk q u => ?_) fun _ _ => Nat.le_refl _⟩)
      rcases hS with ⟨a, b, g⟩ | ⟨j, j7, a, b, e, f, g⟩
      · exact absurd u (g k hk q)
      · have := g k hk q u
        omega
    refine pk_le 7 i (fun h => absurd h (by omega)) (fun _ => nm_e ⟨pk_in i 7 hi, ?_⟩)
    refine pk_lt s (φ i) (fun h => ?_) (fun h => ⟨pk_in i 7 hi, ?_⟩) rfl (mt_at hF hi) (by omega) (by omega)
    · exact mx_u49 H hm hi y12 (fun _ => keep fun _ u => absurd u.1 (by omega)) (fun _ z => absurd rfl z)
    · refine pk_lt (τ i) s (fun g => ?_) (fun g => ?_) (mt_at hT hi) rfl (by omega) (by omega)
      · exact mx_u49 H hm hi y12 (fun _ => keep fun _ u => absurd u.2 (by omega)) (fun _ z => absurd rfl z)
      · exact mx_u49 H hm hi y12 (fun z => keep fun b _ => z b (by decide)) (fun b _ q => tak b ⟨h, g⟩ q)
theorem mx_urg (H : mx_ok φ τ ρ ω F T tr tw) {m s : Nat} (hm : m < 128) (hs : s < 12)
    (h0 : (∀ k, k < 7 → m.testBit k = true → ¬ mj_us φ τ k s) → post 0)
    (h1 : ∀ j, j < 7 → m.testBit j = true → mj_us φ τ j s → (∀ k, k < 7 → m.testBit k = true → mj_us φ τ k s → τ j ≤ τ k) → post ((1 : Int32) <<< (nI j &&& 31))) :
    wpX_mostUrgent post (c, p, R, F, T, V, tr, tw) (nI m) (nI s) :=
  ⟨8, mx_u9 H hm hs h0 h1 7 0 0 12 rfl (.inl ⟨rfl, rfl, lt_0⟩)⟩
theorem mx_cp21 (H : mx_ok φ τ ρ ω F T tr tw) {J4 : Int32 → Int32 → Prop} {s r : Nat} {L : List Nat} (hs : s < 12) (hr : r ≤ 4) (hL : ∀ t, t ∈ L → s ≤ t) :
    ∀ k q m : Nat, q + k = r → m < 128 → (∀ w, w < 128 → (mj_G (mj_us φ τ) (List.replicate k s ++ L) (mj_ms m) ↔ mj_G (mj_us φ τ) L (mj_ms w)) → J4 (nI w) (nI (s + 1))) →
    wX_canPlace_21 post J4 (nI s) (nI r) c p R F T V tr tw (k + 1) (nI m) (nI q) := by
  intro k
  induction k with
  | zero =>
    intro q m hq hm h
    exact pk_le r q (fun _ => nm_r (nI_1 s) (h m hm Iff.rfl)) (fun g => absurd g (by omega))
  | succ k ih =>
    intro q m hq hm h
    have hL' : ∀ t, t ∈ List.replicate k s ++ L → s ≤ t := by
      intro t ht
      rcases List.mem_append.mp ht with a | a
      · rw [(List.mem_replicate.mp a).2]; exact Nat.le_refl _
      · exact hL t a
    refine pk_le r q (fun g => absurd g (by omega)) (fun _ => ?_)
    refine mx_urg H hm hs (fun hn => nm_r (mt_n0 m hm) (nm_r (nI_1 q) (ih (q + 1) m (by omega) hm fun w hw e => h w hw ?_))) (fun j hj hb hu hmin => nm_r (mt_cl m hm j hj) (nm_r (nI_1 q) (ih (q + 1) (mj_cl m j) (by omega) (mj_cl_lt hm j) fun w hw e => h w hw ?_)))
    · exact (mj_no (mj_us φ τ) (s := s) (L := List.replicate k s ++ L) fun i hi => hn i (mj_lt7 hm hi) hi).trans e
    · rw [mj_ms_cl hm] at e
      refine (mj_gr (mj_us φ τ) (s := s) (L := List.replicate k s ++ L) (W := mj_ms m) hb hu fun i hi ui t ht ut => ?_).trans e
      have a := hmin i (mj_lt7 hm hi) hi ui
      have b := hL' t ht
      exact ⟨Nat.le_trans ui.1 b, Nat.le_trans ut.2 a⟩
theorem mx_cp4 (H : mx_ok φ τ ρ ω F T tr tw) : ∀ d s m : Nat, s + d = 12 → m < 128 → (mj_G (mj_us φ τ) (mj_pl ρ d s) (mj_ms m) → post 1) → (¬ mj_G (mj_us φ τ) (mj_pl ρ d s) (mj_ms m) → post 0) →
    wX_canPlace_4 post c p R F T V tr tw (d + 1) (nI m) (nI s) := by
  intro d
  induction d with
  | zero =>
    intro s m hd hm h1 h0
    refine pk_le 12 s (fun _ => ?_) (fun g => absurd g (by omega))
    refine pk_eq m 0 (fun e => h1 fun i => ?_) (fun e => h0 fun h => e ?_)
    · rw [e]; simp [mj_ms]
    · exact Nat.eq_of_testBit_eq fun i => by rw [Nat.zero_testBit]; exact h i
  | succ d ih =>
    intro s m hd hm h1 h0
    have hs : s < 12 := by omega
    have r4 := H.2.2.2.2.2.1 s hs
    refine pk_le 12 s (fun g => absurd g (by omega)) (fun _ => ⟨pk_in s 12 hs, nm_r (mt_at H.2.2.2.2.1 hs) ⟨ρ s + 1, ?_⟩⟩)
    refine mx_cp21 H hs r4 (L := mj_pl ρ d (s + 1)) (fun t ht => ?_) (ρ s) 0 m (by omega) hm fun w hw e => ?_
    · have := (mj_pl_mem ρ d (s + 1) t).mp ht
      omega
    · exact ih (s + 1) w (by omega) hw (fun g => h1 (e.mpr g)) (fun g => h0 fun g' => g (e.mp g'))
theorem mx_cp (H : mx_ok φ τ ρ ω F T tr tw) {m : Nat} (hm : m < 128) (h1 : mj_G (mj_us φ τ) (mj_pl ρ 12 0) (mj_ms m) → post 1) (h0 : ¬ mj_G (mj_us φ τ) (mj_pl ρ 12 0) (mj_ms m) → post 0) :
    wpX_canPlace post (c, p, R, F, T, V, tr, tw) (nI m) := ⟨13, mx_cp4 H 12 0 m rfl hm h1 h0⟩
def mx_pS (ω : Nat → Nat) (m i : Nat) (x2 : Int32) (y : Nat) : Prop :=
  (x2 = 0 ∧ y = 0 ∧ ∀ k, k < i → m.testBit k = false) ∨
  ∃ j, j < i ∧ m.testBit j = true ∧ x2 = (1 : Int32) <<< (nI j &&& 31) ∧ y = ω j ∧ ∀ k, k < i → m.testBit k = true → k ≠ j → ω k < ω j ∨ (ω k = ω j ∧ j < k)
theorem mx_p7 (H : mx_ok φ τ ρ ω F T tr tw) {m : Nat} (hm : m < 128) (hw : ∀ i, m.testBit i = true → 1 ≤ ω i)
    (h0 : (∀ k, k < 7 → m.testBit k = false) → post 0)
    (h1 : ∀ j, j < 7 → m.testBit j = true → (∀ k, k < 7 → m.testBit k = true → k ≠ j → ω k < ω j ∨ (ω k = ω j ∧ j < k)) → post ((1 : Int32) <<< (nI j &&& 31))) :
    ∀ (d i : Nat) (x2 : Int32) (y : Nat), i + d = 7 → mx_pS ω m i x2 y → wX_mostPreferred_7 post (nI m) c p R F T V tr tw (d + 1) x2 (nI y) (nI i) := by
  intro d
  induction d with
  | zero =>
    intro i x3 y hd hS
    have e : i = 7 := by omega
    subst e
    refine pk_le 7 7 (fun _ => ?_) (fun h => absurd h (by omega))
    rcases hS with ⟨a, _, b⟩ | ⟨j, j7, a, e, _, g⟩
    · rw [a]; exact h0 b
    · rw [e]; exact h1 j j7 a g
  | succ d ih =>
    intro i x3 y hd hS
    have hi : i < 7 := by omega
    obtain ⟨-, -, -, -, -, -, hW, hw20⟩ := H
    have w20 := hw20 i hi
    have y20 : y ≤ 20 := by
      rcases hS with ⟨_, a, _⟩ | ⟨j, j7, _, _, a, _⟩
      · omega
      · have := hw20 j (by omega); omega
    refine pk_le 7 i (fun h => absurd h (by omega)) (fun _ => nm_e ?_)
    refine br_c (fun h => nm_r (nI_1 i) ?_) (fun h => ⟨pk_in i 7 hi, ?_⟩)
    · have hb := (mt_bit m hm i hi).mp h
      refine ih (i + 1) x3 y (by omega) ?_
      rcases hS with ⟨a, b, g⟩ | ⟨j, j7, a, e, f, g⟩
      · exact .inl ⟨a, b, lt_s g hb⟩
      · exact .inr ⟨j, by omega, a, e, f, lt_s g fun q => by rw [hb] at q; cases q⟩
    · have hb : m.testBit i = true := by
        cases a : m.testBit i with
        | true => rfl
        | false => exact absurd ((mt_bit m hm i hi).mpr a) h
      have w1 := hw i hb
      refine pk_le (ω i) y (fun g => nm_r (nI_1 i) (ih (i + 1) x3 y (by omega) ?_)) (fun g => ⟨pk_in i 7 hi, nm_r (mt_at hW hi) (nm_r (nI_1 i) (ih (i + 1) _ (ω i) (by omega) ?_))⟩) (mt_at hW hi) rfl (by omega) (by omega)
      · rcases hS with ⟨a, b, _⟩ | ⟨j, j7, a, e, f, q⟩
        · omega
        · exact .inr ⟨j, by omega, a, e, f, lt_s q fun _ _ => by omega⟩
      · refine .inr ⟨i, by omega, hb, rfl, rfl, lt_s (fun k hk b _ => ?_) fun _ n => absurd rfl n⟩
        rcases hS with ⟨a, _, q⟩ | ⟨j, j7, a, e, f, q⟩
        · rw [q k hk] at b; cases b
        · by_cases kj : k = j
          · subst kj; omega
          · have := q k hk b kj
            omega
theorem mx_pref (H : mx_ok φ τ ρ ω F T tr tw) {m : Nat} (hm : m < 128) (hw : ∀ i, m.testBit i = true → 1 ≤ ω i)
    (h0 : (∀ k, k < 7 → m.testBit k = false) → post 0)
    (h1 : ∀ j, j < 7 → m.testBit j = true → (∀ k, k < 7 → m.testBit k = true → k ≠ j → ω k < ω j ∨ (ω k = ω j ∧ j < k)) → post ((1 : Int32) <<< (nI j &&& 31))) :
    wpX_mostPreferred post (c, p, R, F, T, V, tr, tw) (nI m) :=
  ⟨8, mx_p7 H hm hw h0 h1 7 0 0 0 rfl (.inl ⟨rfl, rfl, lt_0⟩)⟩
theorem mx_b9 (H : mx_ok φ τ ρ ω F T tr tw) {pm o : Nat} (hw : ∀ i, pm.testBit i = true → 1 ≤ ω i) (ho : mj_opt (mj_us φ τ) (mj_pl ρ 12 0) (mj_k ω) pm o) (hp : post (nI o)) :
    ∀ d t kc w : Nat, t + d = 7 → mj_gi pm o kc w → mj_ct w ≤ d → wX_bestSet_9 post c p R F T V tr tw (d + 1) (nI kc) (nI w) (nI t) := by
  intro d
  induction d with
  | zero =>
    intro t kc w hd hg hc
    refine pk_le 7 t (fun _ => ?_) (fun g => absurd g (by omega))
    rw [mj_gi_x hg ho.2.1 (mj_ct_0 hg.2.1 (by omega))]
    exact hp
  | succ d ih =>
    intro t kc w hd hg hc
    have w8 := hg.2.1
    have k8 := hg.1
    refine pk_le 7 t (fun g => absurd g (by omega)) (fun _ => ?_)
    refine mx_pref H w8 (fun i hi => hw i (hg.2.2.2.1 i hi)) (fun hn => nm_r (mt_n0 w w8) ?_) (fun j hj hb hmx => nm_r (mt_cl w w8 j hj) ?_)
    · have w0 : ∀ i, w.testBit i = false := fun i => mj_nf fun a => by rw [hn i (mj_lt7 w8 a)] at a; cases a
      have c0 : mj_ct w ≤ d := by
        have e : w = 0 := Nat.eq_of_testBit_eq fun i => by rw [Nat.zero_testBit]; exact w0 i
        rw [e]; exact Nat.zero_le _
      rw [mt_o0 kc k8]
      refine mx_cp H k8 (fun _ => br_f (by decide) (nm_e (nm_r (nI_1 t) (ih (t + 1) kc w (by omega) hg c0)))) (fun _ => br_t rfl (nm_r (nI_1 t) (ih (t + 1) kc w (by omega) hg c0)))
    · have ct := mj_ct_cl w8 hb
      have hk : ∀ i, w.testBit i = true → i ≠ j → mj_k ω i < mj_k ω j := fun i hi ne => mj_k_lt ω (mj_lt7 w8 hi) hj (hmx i (mj_lt7 w8 hi) hi ne)
      rw [mt_or kc k8 j hj]
      refine mx_cp H (mj_or_lt k8 hj) (fun g => br_f (by decide) (nm_e (nm_r (nI_1 t) (ih (t + 1) _ _ (by omega) (mj_gi_k hg hb ?_) (by omega))))) (fun g => br_t rfl (nm_r (nI_1 t) (ih (t + 1) kc _ (by omega) (mj_gi_l hg hb ?_) (by omega))))
      · exact mj_take (fun i hi => mj_k1 ω hi) ho hg hb hk g
      · exact mj_leave ho hg g
theorem mx_best (H : mx_ok φ τ ρ ω F T tr tw) {pm o : Nat} (hm : pm < 128) (hw : ∀ i, pm.testBit i = true → 1 ≤ ω i) (ho : mj_opt (mj_us φ τ) (mj_pl ρ 12 0) (mj_k ω) pm o) (hp : post (nI o)) :
    wpX_bestSet post (c, nI pm, R, F, T, V, tr, tw) :=
  ⟨8, mx_b9 H hw ho hp 7 0 0 pm rfl (mj_gi_0 hm) (mj_sm_1 _ 7)⟩
