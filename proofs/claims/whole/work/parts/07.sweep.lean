/-! the reference's sweep -/
theorem mj_sb_le {a b : Nat} (h : mj_sb a b) : a ≤ b := by
  have : a &&& b = a := Nat.eq_of_testBit_eq fun i => by
    rw [Nat.testBit_and]
    cases x : a.testBit i with
    | true => rw [h i x]; rfl
    | false => rfl
  rw [← this]
  exact Nat.and_le_right
theorem mj_cl_lt2 {m i : Nat} (hm : m < 128) (h : m.testBit i = true) : mj_cl m i < m := by
  have a : mj_cl m i ≤ m := Nat.and_le_left
  have b : mj_cl m i ≠ m := fun e => by
    rw [← e] at h
    exact ((mj_tb_cl hm i i).mp h).2 rfl
  omega
theorem mj_cl_or {x j : Nat} (hx : x < 128) (hj : j < 7) (h : x.testBit j = false) : mj_cl (x ||| 2 ^ j) j = x := by
  apply mj_ms_inj
  rw [mj_ms_cl (mj_or_lt hx hj), mj_ms_or]
  exact mj_e3 h
theorem mj_or_cl {w j : Nat} (hw : w < 128) (h : w.testBit j = true) : mj_cl w j ||| 2 ^ j = w := by
  apply mj_ms_inj
  rw [mj_ms_or, mj_ms_cl hw]
  exact mj_e4 h
def my_tab (ca : Nat → Int32) (P : Nat → Prop) : Prop := ∀ w, w < 128 → (P w ∧ ca w = 1) ∨ (¬ P w ∧ ca w = 0)
theorem my_tab_cg {ca : Nat → Int32} {P Q : Nat → Prop} (h : my_tab ca P) (e : ∀ w, w < 128 → (P w ↔ Q w)) : my_tab ca Q := fun w hw => by
  rw [← e w hw]
  exact h w hw
def my_D (us : Nat → Nat → Prop) (s al : Nat) (P : Nat → Prop) (x j w : Nat) : Prop :=
  P w ∨ ∃ i, w.testBit i = true ∧ al.testBit i = true ∧ us i s ∧ P (mj_cl w i) ∧ (x < mj_cl w i ∨ (mj_cl w i = x ∧ i < j))
theorem my_D_x {us : Nat → Nat → Prop} {s al : Nat} {P : Nat → Prop} {x j : Nat} (hx : x < 128) : my_D us s al P x j x ↔ P x := by
  constructor
  · rintro (h | ⟨i, a, _, _, _, b⟩)
    · exact h
    · have := mj_cl_lt2 hx a
      omega
  · exact Or.inl
theorem my_D_keep {us : Nat → Nat → Prop} {s al : Nat} {P : Nat → Prop} {x j w : Nat} (hw : w < 128) (h : ¬ (w = x ||| 2 ^ j ∧ P x ∧ al.testBit j = true ∧ x.testBit j = false ∧ us j s)) : my_D us s al P x j w ↔ my_D us s al P x (j + 1) w := by
  constructor
  · rintro (a | ⟨i, a, b, d, e, f⟩)
    · exact .inl a
    · exact .inr ⟨i, a, b, d, e, by omega⟩
  · rintro (a | ⟨i, a, b, d, e, f⟩)
    · exact .inl a
    · by_cases g : mj_cl w i = x ∧ i = j
      · obtain ⟨g1, g2⟩ := g
        subst g2
        refine absurd ⟨?_, ?_, b, ?_, d⟩ h
        · rw [← g1]; exact (mj_or_cl hw a).symm
        · rw [← g1]; exact e
        · rw [← g1]
          exact mj_nf fun q => ((mj_tb_cl hw i i).mp q).2 rfl
      · exact .inr ⟨i, a, b, d, e, by omega⟩
theorem my_tab_take {us : Nat → Nat → Prop} {s al : Nat} {P : Nat → Prop} {x j : Nat} {ca : Nat → Int32} (hx : x < 128) (hj : j < 7) (h : my_tab ca (my_D us s al P x j)) (h1 : P x) (h2 : al.testBit j = true) (h3 : x.testBit j = false) (h4 : us j s) :
    my_tab (upd ca (x ||| 2 ^ j) 1) (my_D us s al P x (j + 1)) := by
  intro w hw
  by_cases e : w = x ||| 2 ^ j
  · subst e
    refine .inl ⟨.inr ⟨j, (mj_tb_or x j j).mpr (.inr rfl), h2, h4, ?_, ?_⟩, pk_us⟩
    · rw [mj_cl_or hx hj h3]; exact h1
    · rw [mj_cl_or hx hj h3]; omega
  · rw [pk_un e, ← my_D_keep hw (fun q => e q.1)]
    exact h w hw
section
variable {cp : Int32} {Rm hd Fr To Va lo hi : Nat → Int32} {ρ la et : Nat → Nat} {post : SY → Prop}
def my_ok (la et : Nat → Nat) (lo hi : Nat → Int32) : Prop :=
  (∀ i, i < 7 → lo i = nI (la i)) ∧ (∀ i, i < 7 → hi i = nI (et i)) ∧ (∀ i, i < 7 → la i ≤ 11) ∧ (∀ i, i < 7 → et i ≤ 11)
theorem my_o43 (H : my_ok la et lo hi) {J5 J12 : Int32 → (Nat → Int32) → (Nat → Int32) → (Nat → Int32) → (Nat → Int32) → (Nat → Int32) → (Nat → Int32) → (Nat → Int32) → (Nat → Int32) → Prop} {P : Nat → Prop} {s al x j : Nat} {z : Int32} {ca : Nat → Int32} (hs : s < 12) (hx : x < 128) (hj : j < 7)
    (hP : (P x ∧ ca x = 1) ∨ (¬ P x ∧ ca x = 0))
    (hk : ¬ (P x ∧ ¬ z = 0 ∧ mj_us la et j s) → J12 (nI (j + 1)) Rm hd Fr To Va lo hi ca)
    (ht : P x → ¬ z = 0 → mj_us la et j s → J12 (nI (j + 1)) Rm hd Fr To Va lo hi (upd ca (x ||| 2 ^ j) 1)) :
    wY_onePlace_43 post J5 J12 (nI s) (nI al) (nI x) (nI j) z cp Rm hd Fr To Va lo hi ca := by
  obtain ⟨hl, hh, l11, h11⟩ := H
  have a11 := l11 j hj
  have b11 := h11 j hj
  refine ⟨pk_in x 128 hx, ?_⟩
  rcases hP with ⟨p1, p2⟩ | ⟨p1, p2⟩
  · refine br_f (by rw [nI_clamp (by omega), p2]; decide) (br_c (fun hz => nm_r (nI_1 j) (hk fun q => q.2.1 hz)) (fun hz => ⟨pk_in j 7 hj, ?_⟩))
    refine pk_lt s (la j) (fun g => nm_r (nI_1 j) (hk fun q => by have := q.2.2.1; omega)) (fun g => ⟨pk_in j 7 hj, ?_⟩) rfl (mt_at hl hj) (by omega) (by omega)
    refine pk_lt (et j) s (fun g => nm_r (nI_1 j) (hk fun q => by have := q.2.2.2; omega)) (fun g2 => ⟨?_, ?_⟩) (mt_at hh hj) rfl (by omega) (by omega)
    · rw [mt_or x hx j hj]
      exact pk_in _ 128 (mj_or_lt hx hj)
    · have o8 := mj_or_lt hx hj
      refine nm_r (e' := upd ca (x ||| 2 ^ j) 1) ?_ (nm_r (nI_1 j) (ht p1 hz ⟨g, g2⟩))
      rw [mt_or x hx j hj, nI_clamp (by omega), mt_vn1]
  · exact br_t (by rw [nI_clamp (by omega), p2]) (nm_r (nI_1 j) (hk fun q => p1 q.1))
theorem my_o12 (H : my_ok la et lo hi) {J5 : Int32 → (Nat → Int32) → (Nat → Int32) → (Nat → Int32) → (Nat → Int32) → (Nat → Int32) → (Nat → Int32) → (Nat → Int32) → (Nat → Int32) → Prop} {P : Nat → Prop} {s al x : Nat} (hs : s < 12) (hal : al < 128) (hx : x < 128)
    (h : ∀ ca : Nat → Int32, my_tab ca (my_D (mj_us la et) s al P x 7) → J5 (nI x + (-1)) Rm hd Fr To Va lo hi ca) :
    ∀ (d j : Nat) (ca : Nat → Int32), j + d = 7 → my_tab ca (my_D (mj_us la et) s al P x j) → wY_onePlace_12 post J5 (nI s) (nI al) (nI x) cp (d + 1) (nI j) Rm hd Fr To Va lo hi ca := by
  intro d
  induction d with
  | zero =>
    intro j ca hd' ht
    have e : j = 7 := by omega
    subst e
    exact pk_le 7 7 (fun _ => nm_e (h ca ht)) (fun g => absurd g (by omega))
  | succ d ih =>
    intro j ca hd' ht
    have hj : j < 7 := by omega
    have hP : (P x ∧ ca x = 1) ∨ (¬ P x ∧ ca x = 0) := by
      have := ht x hx
      rw [my_D_x hx] at this
      exact this
    refine pk_le 7 j (fun g => absurd g (by omega)) (fun _ => ?_)
    rw [mt_shr al hal j hj, mt_shr x hx j hj]
    cases ea : al.testBit j with
    | false =>
      refine br_f (by decide) (my_o43 H hs hx hj hP (fun _ => ih (j + 1) ca (by omega) (my_tab_cg ht fun w hw => my_D_keep hw fun q => ?_)) (fun _ q => absurd rfl q))
      have := q.2.2.1
      rw [ea] at this; cases this
    | true =>
      refine br_t (by decide) ?_
      cases ex : x.testBit j with
      | true =>
        refine br_f (by decide) (my_o43 H hs hx hj hP (fun _ => ih (j + 1) ca (by omega) (my_tab_cg ht fun w hw => my_D_keep hw fun q => ?_)) (fun _ q => absurd rfl q))
        have := q.2.2.2.1
        rw [ex] at this; cases this
      | false =>
        refine br_t (by decide) (my_o43 H hs hx hj hP (fun hn => ih (j + 1) ca (by omega) (my_tab_cg ht fun w hw => my_D_keep hw fun q => hn ⟨q.2.1, by decide, q.2.2.2.2⟩)) (fun a _ b => ih (j + 1) _ (by omega) (my_tab_take hx hj ht a ea ex b)))
theorem my_o5 (H : my_ok la et lo hi) {P : Nat → Prop} {s al : Nat} (hs : s < 12) (hal : al < 128)
    (h : ∀ ca : Nat → Int32, my_tab ca (fun w => P w ∨ ∃ i, w.testBit i = true ∧ al.testBit i = true ∧ mj_us la et i s ∧ P (mj_cl w i)) → post (cp, Rm, hd, Fr, To, Va, lo, hi, ca)) :
    ∀ (x : Nat) (ca : Nat → Int32), x < 128 → my_tab ca (my_D (mj_us la et) s al P x 0) → wY_onePlace_5 post (nI s) (nI al) cp (x + 2) (nI x) Rm hd Fr To Va lo hi ca := by
  intro x
  induction x with
  | zero =>
    intro ca hx ht
    refine br_f (by decide) ⟨8, my_o12 H hs hal hx (fun ca' ht' => ?_) 7 0 ca rfl ht⟩
    refine br_t (by decide) (h ca' (my_tab_cg ht' fun w hw => ?_))
    constructor
    · rintro (a | ⟨i, a, b, d, e, _⟩)
      · exact .inl a
      · exact .inr ⟨i, a, b, d, e⟩
    · rintro (a | ⟨i, a, b, d, e⟩)
      · exact .inl a
      · exact .inr ⟨i, a, b, d, e, by have := mj_lt7 hw a; omega⟩
  | succ x ih =>
    intro ca hx ht
    refine br_f (nI_pos (by omega)) ⟨8, my_o12 H hs hal hx (fun ca' ht' => ?_) 7 0 ca rfl ht⟩
    rw [pk_m1]
    refine ih ca' (by omega) (my_tab_cg ht' fun w hw => ?_)
    constructor
    · rintro (a | ⟨i, a, b, d, e, f⟩)
      · exact .inl a
      · exact .inr ⟨i, a, b, d, e, by omega⟩
    · rintro (a | ⟨i, a, b, d, e, f⟩)
      · exact .inl a
      · exact .inr ⟨i, a, b, d, e, by have := mj_lt7 hw a; omega⟩
def my_P (us : Nat → Nat → Prop) (al : Nat) (L : List Nat) (w : Nat) : Prop := mj_sb w al ∧ mj_G us L (mj_ms w)
theorem my_P_app {us : Nat → Nat → Prop} {al s : Nat} {L : List Nat} {w : Nat} (hw : w < 128) : (my_P us al L w ∨ ∃ i, w.testBit i = true ∧ al.testBit i = true ∧ us i s ∧ my_P us al L (mj_cl w i)) ↔ my_P us al (L ++ [s]) w := by
  unfold my_P
  rw [mj_app]
  constructor
  · rintro (⟨a, b⟩ | ⟨i, a, b, d, e, f⟩)
    · exact ⟨a, .inl b⟩
    · refine ⟨fun k hk => ?_, .inr ⟨i, a, d, ?_⟩⟩
      · by_cases g : k = i
        · rw [g]; exact b
        · exact e k ((mj_tb_cl hw i k).mpr ⟨hk, g⟩)
      · rw [← mj_ms_cl hw]; exact f
  · rintro ⟨a, (b | ⟨i, b, d, e⟩)⟩
    · exact .inl ⟨a, b⟩
    · refine .inr ⟨i, b, a i b, d, fun k hk => a k ((mj_tb_cl hw i k).mp hk).1, ?_⟩
      rw [mj_ms_cl hw]; exact e
theorem my_one (H : my_ok la et lo hi) {L : List Nat} {s al : Nat} {ca : Nat → Int32} (hs : s < 12) (hal : al < 128) (ht : my_tab ca (my_P (mj_us la et) al L))
    (h : ∀ ca' : Nat → Int32, my_tab ca' (my_P (mj_us la et) al (L ++ [s])) → post (cp, Rm, hd, Fr, To, Va, lo, hi, ca')) :
    wpY_onePlace post (cp, Rm, hd, Fr, To, Va, lo, hi, ca) (nI s) (nI al) := by
  refine nm_r (mt_127 al hal) ⟨al + 2, my_o5 H (P := my_P (mj_us la et) al L) hs hal (fun ca' ht' => h ca' (my_tab_cg ht' fun w hw => my_P_app hw)) al ca hal (my_tab_cg ht fun w hw => ?_)⟩
  constructor
  · exact Or.inl
  · rintro (a | ⟨i, a, b, d, e, f⟩)
    · exact a
    · have := mj_sb_le e.1
      omega
theorem my_s40 (H : my_ok la et lo hi) {J32 : Int32 → Int32 → (Nat → Int32) → (Nat → Int32) → (Nat → Int32) → (Nat → Int32) → (Nat → Int32) → (Nat → Int32) → (Nat → Int32) → (Nat → Int32) → Prop} {s al : Nat} (hR : ∀ s, s < 12 → Rm s = nI (ρ s)) (hr : ∀ s, s < 12 → ρ s ≤ 4) (hs : s < 12) (hal : al < 128) :
    ∀ (k q : Nat) (L : List Nat) (ca : Nat → Int32), q + k = ρ s → my_tab ca (my_P (mj_us la et) al L) →
    (∀ ca' : Nat → Int32, my_tab ca' (my_P (mj_us la et) al (L ++ List.replicate k s)) → J32 (nI (s + 1)) cp Rm hd Fr To Va lo hi ca') →
    wY_sweep_40 post J32 (nI al) (nI s) (k + 1) (nI q) cp Rm hd Fr To Va lo hi ca := by
  have r4 := hr s hs
  intro k
  induction k with
  | zero =>
    intro q L ca hq ht h
    refine ⟨pk_in s 12 hs, pk_le (ρ s) q (fun _ => nm_r (nI_1 s) (h ca ?_)) (fun g => absurd g (by omega)) (mt_at hR hs) rfl (by omega) (by omega)⟩
    rw [List.replicate_zero, List.append_nil]
    exact ht
  | succ k ih =>
    intro q L ca hq ht h
    refine ⟨pk_in s 12 hs, pk_le (ρ s) q (fun g => absurd g (by omega)) (fun _ => ?_) (mt_at hR hs) rfl (by omega) (by omega)⟩
    refine pk_le 4 q (fun g => absurd g (by omega)) (fun _ => ?_)
    refine my_one H hs hal ht (fun ca' ht' => nm_r (nI_1 q) (ih (q + 1) (L ++ [s]) ca' (by omega) ht' fun ca2 ht2 => h ca2 ?_))
    rw [List.append_assoc] at ht2
    exact ht2
theorem my_s32 (H : my_ok la et lo hi) {al : Nat} (hR : ∀ s, s < 12 → Rm s = nI (ρ s)) (hr : ∀ s, s < 12 → ρ s ≤ 4) (hal : al < 128) :
    ∀ (d s : Nat) (L : List Nat) (ca : Nat → Int32), s + d = 12 → my_tab ca (my_P (mj_us la et) al L) →
    (∀ ca' : Nat → Int32, my_tab ca' (my_P (mj_us la et) al (L ++ mj_pl ρ d s)) → post (cp, Rm, hd, Fr, To, Va, lo, hi, ca')) →
    wY_sweep_32 post (nI al) (d + 1) (nI s) cp Rm hd Fr To Va lo hi ca := by
  intro d
  induction d with
  | zero =>
    intro s L ca hd' ht h
    refine pk_le 12 s (fun _ => h ca ?_) (fun g => absurd g (by omega))
    rw [mj_pl, List.append_nil]
    exact ht
  | succ d ih =>
    intro s L ca hd' ht h
    refine pk_le 12 s (fun g => absurd g (by omega)) (fun _ => ⟨ρ s + 1, my_s40 H hR hr (by omega) hal (ρ s) 0 L ca (by omega) ht fun ca' ht' => ih (s + 1) _ ca' (by omega) ht' fun ca2 ht2 => h ca2 ?_⟩)
    rw [List.append_assoc] at ht2
    exact ht2
theorem my_P0 {us : Nat → Nat → Prop} {al w : Nat} : my_P us al [] w ↔ w = 0 := by
  constructor
  · rintro ⟨_, h⟩
    exact Nat.eq_of_testBit_eq fun i => by rw [Nat.zero_testBit]; exact h i
  · rintro rfl
    exact ⟨fun i h => by simp at h, fun i => by simp [mj_ms]⟩
theorem my_s2 (H : my_ok la et lo hi) {al : Nat} (hR : ∀ s, s < 12 → Rm s = nI (ρ s)) (hr : ∀ s, s < 12 → ρ s ≤ 4) (hal : al < 128)
    (h : ∀ ca' : Nat → Int32, my_tab ca' (my_P (mj_us la et) al (mj_pl ρ 12 0)) → post (cp, Rm, hd, Fr, To, Va, lo, hi, ca')) :
    ∀ (d x : Nat) (ca : Nat → Int32), x + d = 128 → (∀ w, w < x → (w = 0 ∧ ca w = 1) ∨ (¬ w = 0 ∧ ca w = 0)) →
    wY_sweep_2 post (nI al) cp (d + 1) (nI x) Rm hd Fr To Va lo hi ca := by
  intro d
  induction d with
  | zero =>
    intro x ca hd' ht
    have e : x = 128 := by omega
    subst e
    refine pk_le 128 128 (fun _ => ⟨13, my_s32 H hR hr hal 12 0 [] ca rfl (fun w hw => ?_) h⟩) (fun g => absurd g (by omega))
    rw [my_P0]
    exact ht w hw
  | succ d ih =>
    intro x ca hd' ht
    refine pk_le 128 x (fun g => absurd g (by omega)) (fun _ => pk_eq x 0 (fun e => ⟨pk_in x 128 (by omega), nm_e (nm_r (nI_1 x) (ih (x + 1) _ (by omega) (lt_s (fun w hw => ?_) (.inl ⟨e, ?_⟩))))⟩) (fun e => ⟨pk_in x 128 (by omega), nm_e (nm_r (nI_1 x) (ih (x + 1) _ (by omega) (lt_s (fun w hw => ?_) (.inr ⟨e, ?_⟩))))⟩))
    · rw [nI_clamp (by omega), pk_un (by omega)]; exact ht w hw
    · rw [nI_clamp (by omega), pk_us, mt_vn1]
    · rw [nI_clamp (by omega), pk_un (by omega)]; exact ht w hw
    · rw [nI_clamp (by omega), pk_us, mt_vn0]
theorem my_sweep (H : my_ok la et lo hi) {al : Nat} {ca : Nat → Int32} (hR : ∀ s, s < 12 → Rm s = nI (ρ s)) (hr : ∀ s, s < 12 → ρ s ≤ 4) (hal : al < 128)
    (h : ∀ ca' : Nat → Int32, my_tab ca' (my_P (mj_us la et) al (mj_pl ρ 12 0)) → post (cp, Rm, hd, Fr, To, Va, lo, hi, ca')) :
    wpY_sweep post (cp, Rm, hd, Fr, To, Va, lo, hi, ca) (nI al) := ⟨129, my_s2 H hR hr hal h 128 0 ca rfl lt_0⟩
end
