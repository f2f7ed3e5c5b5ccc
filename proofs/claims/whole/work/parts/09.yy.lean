/-! the reference's price, slots, bring; the component's least free number -/
section
variable {cp : Int32} {Rm hd Fr To Va lo hi ca : Nat → Int32} {φ τ ρ ω : Nat → Nat} {m : Nat}
theorem my_OK_w (H : my_OK φ τ ρ ω Rm Fr To Va) {Va' : Nat → Int32} {j w : Nat} (hj : j < 7) (hw : w ≤ 20) (h : ∀ k, k ≠ j → Va' k = Va k) : my_OK φ τ ρ (mj_nu ω j w) Rm Fr To (upd Va' (nI j).toNatClampNeg (nI w)) := by
  obtain ⟨h1, h2, h3, h4, h5, h6, h7, h8⟩ := H
  refine ⟨h1, h2, h3, h4, h5, h6, fun i hi => ?_, fun i hi => ?_⟩
  · rw [nI_clamp (by omega)]
    by_cases e : i = j
    · subst e; rw [pk_us, mj_nus]
    · rw [pk_un e, mj_nun e, h i e]; exact h7 i hi
  · have := h8 i hi
    unfold mj_nu
    split <;> omega
theorem my_OK_r (H : my_OK φ τ ρ ω Rm Fr To Va) {s x : Nat} (hx : x ≤ 4) {y : Int32} (hy : y = nI x) (hs : s < 12) : my_OK φ τ (mj_nu ρ s x) ω (upd Rm (nI s).toNatClampNeg y) Fr To Va := by
  obtain ⟨h1, h2, h3, h4, h5, h6, h7, h8⟩ := H
  refine ⟨fun i hi => ?_, fun i hi => ?_, h3, h4, h5, h6, h7, h8⟩
  · rw [nI_clamp (by omega)]
    by_cases e : i = s
    · subst e; rw [pk_us, mj_nus]; exact hy
    · rw [pk_un e, mj_nun e]; exact h1 i hi
  · have := h2 i hi
    unfold mj_nu
    split <;> omega
theorem my_pr24 {post : Int32 → SY → Prop} (H : my_OK φ τ ρ ω Rm Fr To Va) {j r0 : Nat} (hm : m < 128) (hj : j < 7) (hr0 : mj_pr (mj_pB φ τ ρ ω m j) r0)
    (h : ∀ lo' hi' ca' : Nat → Int32, post (nI r0) (cp, Rm, my_hb m, Fr, To, Va, lo', hi', ca')) :
    ∀ (w r : Nat) (Va' lo hi ca : Nat → Int32), w ≤ 20 → (∀ k, k ≠ j → Va' k = Va k) → w < r → r ≤ 21 → (r ≤ 20 → mj_pB φ τ ρ ω m j r) → (∀ x, w < x → x < r → ¬ mj_pB φ τ ρ ω m j x) →
    wY_price_24 post (nI j) (Va j) (w + 1) (nI r) (nI w) cp Rm (my_hb m) Fr To Va' lo hi ca := by
  intro w
  induction w with
  | zero =>
    intro r Va' lo hi ca hw hk h1 h2 h3 h4
    have e : r = r0 := mj_pr_u (B := mj_pB φ τ ρ ω m j) ⟨by omega, h2, h3, fun x a b => h4 x (by omega) b⟩ hr0
    subst e
    refine pk_lt 0 1 (fun _ => ⟨pk_in j 7 hj, nm_r (e' := Va) ?_ (h lo hi ca)⟩) (fun g => absurd g (by omega))
    rw [nI_clamp (by omega)]
    funext k
    by_cases e : k = j
    · subst e; exact pk_us
    · rw [pk_un e]; exact hk k e
  | succ w ih =>
    intro r Va' lo hi ca hw hk h1 h2 h3 h4
    have hk' : ∀ k, k ≠ j → upd Va' (nI j).toNatClampNeg (nI (w + 1)) k = Va k := fun k e => by
      rw [nI_clamp (by omega), pk_un e]; exact hk k e
    refine pk_lt (w + 1) 1 (fun g => absurd g (by omega)) (fun _ => ⟨pk_in j 7 hj, nm_e ?_⟩)
    refine my_chosen (my_OK_w H hj hw hk) hm fun lo' hi' ca' _ _ => ?_
    dsimp only
    rw [mt_shr _ (mj_best_sp φ τ ρ (mj_nu ω j (w + 1)) m).1 j hj]
    cases b : (mj_best φ τ ρ (mj_nu ω j (w + 1)) m).testBit j with
    | true => exact br_t (by decide) (nm_r (pk_m1 w) (ih (w + 1) _ lo' hi' ca' (by omega) hk' (by omega) (by omega) (fun _ => b) (fun x a c => absurd c (by omega))))
    | false =>
      refine br_f (by decide) (nm_r (pk_m1 w) (ih r _ lo' hi' ca' (by omega) hk' (by omega) h2 h3 (fun x a c => ?_)))
      by_cases e : x = w + 1
      · subst e
        intro q
        unfold mj_pB at q
        rw [b] at q; cases q
      · exact h4 x (by omega) c
/-- the windows of the reference while the jobs below j are pinned -/
noncomputable def my_la (φ τ ρ : Nat → Nat) (o : Nat) (f : Nat → Nat) (j : Nat) : Nat → Nat := fun i => if i < j ∧ o.testBit i = true then mj_slot φ τ ρ o i else f i
theorem my_la_0 {f : Nat → Nat} {o : Nat} : my_la φ τ ρ o f 0 = f := by
  funext i
  unfold my_la
  rw [if_neg (fun q => absurd q.1 (by omega))]
theorem my_la_t {f : Nat → Nat} {o j : Nat} (h : o.testBit j = true) : mj_nu (my_la φ τ ρ o f j) j (mj_slot φ τ ρ o j) = my_la φ τ ρ o f (j + 1) := by
  funext i
  unfold mj_nu my_la
  by_cases e : i = j
  · subst e
    rw [if_pos rfl, if_pos ⟨by omega, h⟩]
  · rw [if_neg e]
    by_cases g : i < j ∧ o.testBit i = true
    · rw [if_pos g, if_pos ⟨by omega, g.2⟩]
    · rw [if_neg g, if_neg (fun q => g ⟨by omega, q.2⟩)]
theorem my_la_f {f : Nat → Nat} {o j : Nat} (h : o.testBit j = false) : my_la φ τ ρ o f (j + 1) = my_la φ τ ρ o f j := by
  funext i
  unfold my_la
  by_cases e : i = j
  · subst e
    rw [if_neg (fun q => by have := q.2; rw [h] at this; cases this), if_neg (fun q => absurd q.1 (by omega))]
  · by_cases g : i < j ∧ o.testBit i = true
    · rw [if_pos g, if_pos ⟨by omega, g.2⟩]
    · rw [if_neg g, if_neg (fun q => g ⟨by omega, q.2⟩)]
theorem my_la_us {o j s : Nat} (ho : o < 128) : mj_G (mj_us (mj_nu (my_la φ τ ρ o φ j) j s) (mj_nu (my_la φ τ ρ o τ j) j s)) (mj_pl ρ 12 0) (mj_ms o) ↔ mj_G (fun i t => if i < j then t = mj_slot φ τ ρ o i else if i = j then t = s else mj_us φ τ i t) (mj_pl ρ 12 0) (mj_ms o) := by
  have e : ∀ i t, mj_ms o i = true → (mj_us (mj_nu (my_la φ τ ρ o φ j) j s) (mj_nu (my_la φ τ ρ o τ j) j s) i t ↔ (if i < j then t = mj_slot φ τ ρ o i else if i = j then t = s else mj_us φ τ i t)) := by
    intro i t hi
    have hi : o.testBit i = true := hi
    unfold mj_us mj_nu my_la
    by_cases g : i < j
    · have g2 : ¬ i = j := by omega
      rw [if_neg g2, if_neg g2, if_pos ⟨g, hi⟩, if_pos ⟨g, hi⟩, if_pos g]
      omega
    · by_cases g2 : i = j
      · rw [if_pos g2, if_pos g2, if_neg g, if_pos g2]
        omega
      · rw [if_neg g2, if_neg g2, if_neg (fun q => g q.1), if_neg (fun q => g q.1), if_neg g, if_neg g2]
  exact ⟨mj_cg _ _ fun i t hi _ hu => (e i t hi).mp hu, mj_cg _ _ fun i t hi _ hu => (e i t hi).mpr hu⟩
theorem my_ok_p {la et : Nat → Nat} {j s : Nat} (hj : j < 7) (hs : s ≤ 11)
    (h : ∀ i, i < 7 → i ≠ j → lo i = nI (la i) ∧ hi i = nI (et i) ∧ la i ≤ 11 ∧ et i ≤ 11) : my_ok (mj_nu la j s) (mj_nu et j s) (upd lo (nI j).toNatClampNeg (nI s)) (upd hi (nI j).toNatClampNeg (nI s)) := by
  rw [nI_clamp (by omega)]
  refine ⟨fun i hi => ?_, fun i hi => ?_, fun i hi => ?_, fun i hi => ?_⟩ <;> by_cases e : i = j
  · subst e; rw [pk_us, mj_nus]
  · rw [pk_un e, mj_nun e]; exact (h i hi e).1
  · subst e; rw [pk_us, mj_nus]
  · rw [pk_un e, mj_nun e]; exact (h i hi e).2.1
  · subst e; rw [mj_nus]; exact hs
  · rw [mj_nun e]; exact (h i hi e).2.2.1
  · subst e; rw [mj_nus]; exact hs
  · rw [mj_nun e]; exact (h i hi e).2.2.2
theorem my_se7 {post : Int32 → SY → Prop} (H : my_OK φ τ ρ ω Rm Fr To Va) {o j : Nat} (ho : o < 128) (hj : j < 7) (hb : o.testBit j = true) (hg : mj_G (mj_us φ τ) (mj_pl ρ 12 0) (mj_ms o))
    (h : ∀ lo' hi' ca' : Nat → Int32, my_ok (my_la φ τ ρ o φ (j + 1)) (my_la φ τ ρ o τ (j + 1)) lo' hi' → post (nI (mj_slot φ τ ρ o j)) (cp, Rm, hd, Fr, To, Va, lo', hi', ca')) :
    ∀ (d s : Nat) (lo hi ca : Nat → Int32), s + d = mj_slot φ τ ρ o j → φ j ≤ s →
    (∀ i, i < 7 → i ≠ j → lo i = nI (my_la φ τ ρ o φ j i) ∧ hi i = nI (my_la φ τ ρ o τ j i) ∧ my_la φ τ ρ o φ j i ≤ 11 ∧ my_la φ τ ρ o τ j i ≤ 11) →
    wY_settle_7 post (nI j) (nI o) (d + 1) (nI s) cp Rm hd Fr To Va lo hi ca := by
  obtain ⟨hR, hr, hF, hT, hf, ht, hV, hw⟩ := H
  have sp := mj_slot_sp (j := j) ho hg hr hb
  have t11 := ht j hj
  intro d
  induction d with
  | zero =>
    intro s lo hi ca hd' hs hk
    have e : s = mj_slot φ τ ρ o j := by omega
    have s11 := sp.1.2.1
    have su := sp.1.1.2
    rw [← e] at s11 su
    refine ⟨pk_in j 7 hj, pk_lt (τ j) s (fun g => absurd g (by omega)) (fun _ => ⟨pk_in j 7 hj, nm_e ⟨pk_in j 7 hj, nm_e ?_⟩⟩) (mt_at hT hj) rfl (by omega) (by omega)⟩
    have ok := my_ok_p (lo := lo) (hi := hi) (s := s) hj (by omega) hk
    refine my_sweep ok hR hr ho fun ca' tb => ?_
    dsimp only
    rw [mt_127 o ho]
    refine ⟨pk_in o 128 ho, ?_⟩
    rcases tb o ho with ⟨p1, p2⟩ | ⟨p1, p2⟩
    · refine br_f (by rw [nI_clamp (by omega), p2]; decide) ?_
      rw [e] at ok ⊢
      rw [my_la_t hb, my_la_t hb] at ok
      exact h _ _ ca' ok
    · refine absurd ⟨fun _ q => q, ?_⟩ p1
      rw [my_la_us ho, mj_ycond ho hg hr hb s11 ⟨hs, su⟩, e]
      exact sp.1
  | succ d ih =>
    intro s lo hi ca hd' hs hk
    have s11 := sp.1.2.1
    have su := sp.1.1.2
    refine ⟨pk_in j 7 hj, pk_lt (τ j) s (fun g => absurd g (by omega)) (fun g => ⟨pk_in j 7 hj, nm_e ⟨pk_in j 7 hj, nm_e ?_⟩⟩) (mt_at hT hj) rfl (by omega) (by omega)⟩
    have ok := my_ok_p (lo := lo) (hi := hi) (s := s) hj (by omega) hk
    refine my_sweep ok hR hr ho fun ca' tb => ?_
    dsimp only
    rw [mt_127 o ho]
    refine ⟨pk_in o 128 ho, ?_⟩
    rcases tb o ho with ⟨p1, p2⟩ | ⟨p1, p2⟩
    · refine absurd ?_ (sp.2 s (by omega))
      rw [← mj_ycond ho hg hr hb (by omega) ⟨hs, g⟩, ← my_la_us ho]
      exact p1.2
    · refine br_t (by rw [nI_clamp (by omega), p2]) (nm_r (nI_1 s) (ih (s + 1) _ _ ca' (by omega) (by omega) fun i hi' ne => ?_))
      rw [nI_clamp (by omega), pk_un ne, pk_un ne]
      exact hk i hi' ne
theorem my_settle {post : Int32 → SY → Prop} (H : my_OK φ τ ρ ω Rm Fr To Va) {o j : Nat} (ho : o < 128) (hj : j < 7) (hb : o.testBit j = true) (hg : mj_G (mj_us φ τ) (mj_pl ρ 12 0) (mj_ms o))
    (hk : my_ok (my_la φ τ ρ o φ j) (my_la φ τ ρ o τ j) lo hi)
    (h : ∀ lo' hi' ca' : Nat → Int32, my_ok (my_la φ τ ρ o φ (j + 1)) (my_la φ τ ρ o τ (j + 1)) lo' hi' → post (nI (mj_slot φ τ ρ o j)) (cp, Rm, hd, Fr, To, Va, lo', hi', ca')) :
    wpY_settle post (cp, Rm, hd, Fr, To, Va, lo, hi, ca) (nI j) (nI o) := by
  have sp := (mj_slot_sp (j := j) ho hg H.2.1 hb).1.1.1
  refine ⟨pk_in j 7 hj, nm_r (mt_at H.2.2.1 hj) ⟨mj_slot φ τ ρ o j - φ j + 1, my_se7 H ho hj hb hg h _ (φ j) lo hi ca (by omega) (Nat.le_refl _) fun i hi' _ => ?_⟩⟩
  exact ⟨hk.1 i hi', hk.2.1 i hi', hk.2.2.1 i hi', hk.2.2.2 i hi'⟩
theorem my_sl28 {post : Int32 → SY → Prop} (H : my_OK φ τ ρ ω Rm Fr To Va) {o id : Nat} (ho : o < 128) (hid : id < 7) (hb : o.testBit id = true) (hg : mj_G (mj_us φ τ) (mj_pl ρ 12 0) (mj_ms o))
    (h : ∀ lo' hi' ca' : Nat → Int32, post (nI (mj_slot φ τ ρ o id)) (cp, Rm, hd, Fr, To, Va, lo', hi', ca')) :
    ∀ (d j : Nat) (r : Int32) (lo hi ca : Nat → Int32), j + d = id + 1 → (j = id + 1 → r = nI (mj_slot φ τ ρ o id)) → my_ok (my_la φ τ ρ o φ j) (my_la φ τ ρ o τ j) lo hi →
    wY_slotOf_28 post (nI id) (nI o) (d + 1) r (nI j) cp Rm hd Fr To Va lo hi ca := by
  intro d
  induction d with
  | zero =>
    intro j r lo hi ca hd' hr hk
    refine pk_lt id j (fun _ => ?_) (fun g => absurd g (by omega))
    rw [hr (by omega)]
    exact h lo hi ca
  | succ d ih =>
    intro j r lo hi ca hd' hr hk
    have hj : j < 7 := by omega
    refine pk_lt id j (fun g => absurd g (by omega)) (fun _ => pk_le 7 j (fun g => absurd g (by omega)) (fun _ => ?_))
    rw [mt_shr o ho j hj]
    cases b : o.testBit j with
    | true =>
      refine br_t (by decide) (my_settle H ho hj b hg hk fun lo' hi' ca' hk' => nm_r (nI_1 j) (ih (j + 1) _ lo' hi' ca' (by omega) (fun e => ?_) hk'))
      have e : j = id := by omega
      rw [e]
    | false =>
      refine br_f (by decide) (nm_r (nI_1 j) (ih (j + 1) r lo hi ca (by omega) (fun e => ?_) ?_))
      · have e : j = id := by omega
        rw [e, hb] at b; cases b
      · rw [my_la_f b, my_la_f b]; exact hk
theorem my_iu4 {post : Int32 → Prop} (h : post (nI (mj_ct m))) : ∀ d i : Nat, i + d = 7 → wY_inUse_4 post cp Rm (my_hb m) Fr To Va lo hi ca (d + 1) (nI (mj_sm (fun _ => 1) (mj_ms m) i)) (nI i) := by
  intro d
  induction d with
  | zero =>
    intro i hd'
    have e : i = 7 := by omega
    subst e
    exact pk_le 7 7 (fun _ => h) (fun g => absurd g (by omega))
  | succ d ih =>
    intro i hd'
    have hi : i < 7 := by omega
    have n := ih (i + 1) (by omega)
    refine pk_le 7 i (fun g => absurd g (by omega)) (fun _ => ⟨pk_in i 7 hi, ?_⟩)
    cases b : m.testBit i with
    | true =>
      refine br_f (my_hb1 m hi b) (nm_r ?_ (nm_r (nI_1 i) n))
      rw [nI_1, mj_sm]
      simp [mj_ms, b]
    | false =>
      refine br_t (my_hb0 m hi b) (nm_r ?_ (nm_r (nI_1 i) n))
      rw [Int32.add_zero, mj_sm]
      simp [mj_ms, b]
theorem my_inUse {post : Int32 → Prop} (h : post (nI (mj_ct m))) : wpY_inUse post (cp, Rm, my_hb m, Fr, To, Va, lo, hi, ca) := ⟨8, my_iu4 h 7 0 rfl⟩
theorem my_b31 {post : Int32 → SY → Prop} {x1 x2 x3 : Int32} (h : ∀ j, j ≤ 7 → (∀ i, i < j → m.testBit i = true) → (j < 7 → m.testBit j = false) → wY_bring_54 post x1 x2 x3 (nI j) cp Rm (my_hb m) Fr To Va lo hi ca) :
    ∀ d i : Nat, i + d = 7 → (∀ k, k < i → m.testBit k = true) → wY_bring_31 post x1 x2 x3 cp Rm (my_hb m) Fr To Va lo hi ca (d + 1) (nI i) := by
  intro d
  induction d with
  | zero =>
    intro i hd' hk
    exact pk_le 7 i (fun _ => h i (by omega) hk (fun g => absurd g (by omega))) (fun g => absurd g (by omega))
  | succ d ih =>
    intro i hd' hk
    have hi : i < 7 := by omega
    refine pk_le 7 i (fun g => absurd g (by omega)) (fun _ => ⟨pk_in i 7 hi, ?_⟩)
    cases b : m.testBit i with
    | true => exact br_f (my_hb1 m hi b) (nm_r (nI_1 i) (ih (i + 1) (by omega) (lt_s hk b)))
    | false => exact br_t (my_hb0 m hi b) (h i (by omega) hk (fun _ => b))
end
theorem mx_lf2 {post : Int32 → Prop} {p : Int32} {R F T V tr tw : Nat → Int32} {cc m : Nat} (hm : m < 128) (hc : cc ≤ 7) (h1 : ∀ j, j < cc → (∀ i, i < j → m.testBit i = true) → m.testBit j = false → post (nI j)) (h0 : (∀ i, i < cc → m.testBit i = true) → post (-1)) :
    ∀ d i : Nat, i + d = cc → (∀ k, k < i → m.testBit k = true) → wX_leastFreeNumber_2 post (nI cc) (nI m) R F T V tr tw (d + 1) (nI i) := by
  intro d
  induction d with
  | zero =>
    intro i hd' hk
    have e : i = cc := by omega
    subst e
    exact pk_le i i (fun _ => h0 hk) (fun g => absurd g (by omega))
  | succ d ih =>
    intro i hd' hk
    exact pk_le cc i (fun g => absurd g (by omega)) (fun g => mx_isinj hm (by omega) (fun b => br_f (by decide) (nm_r (nI_1 i) (ih (i + 1) (by omega) (lt_s hk b)))) (fun b => br_t rfl (h1 i g hk b)))
theorem mx_lf {post : Int32 → Prop} {R F T V tr tw : Nat → Int32} {cc m : Nat} (hm : m < 128) (hc : cc ≤ 7) (h1 : ∀ j, j < cc → (∀ i, i < j → m.testBit i = true) → m.testBit j = false → post (nI j)) (h0 : (∀ i, i < cc → m.testBit i = true) → post (-1)) :
    wpX_leastFreeNumber post (nI cc, nI m, R, F, T, V, tr, tw) := ⟨cc + 1, mx_lf2 (p := 0) hm hc h1 h0 cc 0 (by omega) lt_0⟩
theorem mt_full : ∀ cc : Nat, cc < 8 → ∀ m : Nat, m < 128 → (∀ i, i < cc → m.testBit i = true) → cc ≤ mj_ct m := by decide +kernel
theorem mt_free : ∀ cc : Nat, cc < 8 → ∀ m : Nat, m < 128 → m < 2 ^ cc → (∀ j : Nat, j < cc → m.testBit j = false → mj_ct m < cc) := by decide +kernel
theorem mt_fre2 {cc m j : Nat} (hm : m < 2 ^ cc) (hj : j < cc) : m ||| 2 ^ j < 2 ^ cc := Nat.or_lt_two_pow hm (Nat.pow_lt_pow_right (by omega) hj)
