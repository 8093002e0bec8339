/-! groups, groupOf, groupSize -/
theorem i_vc_groupOf {k : Nat} {u : SX} {v : SY} (I : i_Rel k u v) (hk : k + 3 ≤ 1536) (v1 : Int32) : wpX_groupOf (fun r => wpY_groupOf (fun r' v' => r' = r ∧ i_Rel (k + 3) u v') v v1) u v1 := by
  obtain ⟨m, d, t, w, st, ai, lb, hm, rfl, rfl, ⟨hd, hD⟩, hr⟩ := I
  unfold wpX_groupOf wpY_groupOf
  dsimp only
  rcases sj_two v1 (n := m) (by omega) with h | ⟨q, hq, rfl⟩
  · exact sx_rec_no h (br_t rfl (sy_bad_no h (br_f (by decide) ⟨rfl, sj_rel hm hd hD hr⟩)))
  · refine sx_rec_ok hm hq (br_f (by decide) (sx_link hm hq (fun A hA => sx_least (fun h0 => ?_) (fun r hr20 hb hlow => ?_))))
    · exact absurd ((h0 q (by omega)).symm.trans ((hA q).mpr sj_rc_0)) (by decide)
    · refine sy_bad_ok hm hq (br_t rfl (sy_join (st := st) hm (fun r h => (hr r h).2) (fun lb' L hV hF => ?_)))
      refine ⟨vp_in_nI (by omega) (by omega), ?_, sj_rel hm hd hD hr⟩
      rw [nI_clamp (n := q) (by omega)]
      refine (hV q hq).1.trans ?_
      have h1 : L q ≤ r := hF q hq r ((hA r).mp hb)
      have h2 : ¬ L q < r := fun z => absurd ((hlow (L q) z).symm.trans ((hA (L q)).mpr (hV q hq).2.2)) (by decide)
      rw [show L q = r by omega]
theorem sy_gsz_l {post : Int32 → SY → Prop} {m q : Nat} (hm : m ≤ 20) (hq : q < m) {t w : Int32} {ai lb : Nat → Int32} {L : Nat → Nat} (hL : ∀ a, a < m → lb a = nI (L a) ∧ L a ≤ a) (hp : post (nI (sj_c (fun j => decide (L j = L q)) m)) (nI m, t, w, ai, lb)) : ∀ e i : Nat, i + e = m → wY_groupSize_18 post (nI q) (nI m) t w ai lb (e + 1) (nI (sj_c (fun j => decide (L j = L q)) i)) (nI i) := by
  intro e
  induction e with
  | zero =>
    intro i hi
    obtain rfl : i = m := by omega
    exact pk_le i i (fun _ => hp) (fun h => absurd h (by omega))
  | succ e ih =>
    intro i hi
    have li := hL i (by omega)
    have lq := hL q hq
    refine pk_le m i (fun h => absurd h (by omega)) (fun _ => pk_le 20 i (fun h => absurd h (by omega)) (fun _ => ⟨vp_in_nI (by omega) (by omega), vp_in_nI (by omega) (by omega), ?_⟩))
    rw [nI_clamp (n := i) (by omega), nI_clamp (n := q) (by omega)]
    refine pk_eq (L i) (L q) (fun hb => ?_) (fun hb => ?_) li.1 lq.1
    · refine nm_r (e' := nI (sj_c (fun j => decide (L j = L q)) (i + 1))) ?_ (nm_r (nI_1 i) (ih (i + 1) (by omega)))
      rw [sj_c_t (f := fun j => decide (L j = L q)) (n := i) (decide_eq_true hb)]
      exact nI_1 _
    · refine nm_r (nI_1 i) ?_
      rw [← sj_c_f (f := fun j => decide (L j = L q)) (n := i) (decide_eq_false hb)]
      exact ih (i + 1) (by omega)
theorem i_vc_groupSize {k : Nat} {u : SX} {v : SY} (I : i_Rel k u v) (hk : k + 3 ≤ 1536) (v1 : Int32) : wpX_groupSize (fun r => wpY_groupSize (fun r' v' => r' = r ∧ i_Rel (k + 3) u v') v v1) u v1 := by
  obtain ⟨m, d, t, w, st, ai, lb, hm, rfl, rfl, ⟨hd, hD⟩, hr⟩ := I
  unfold wpX_groupSize wpY_groupSize
  dsimp only
  rcases sj_two v1 (n := m) (by omega) with h | ⟨q, hq, rfl⟩
  · exact sx_rec_no h (br_t rfl (sy_bad_no h (br_f (by decide) ⟨rfl, sj_rel hm hd hD hr⟩)))
  · refine sx_rec_ok hm hq (br_f (by decide) (sx_link hm hq (fun A hA => sx_count ?_)))
    refine sy_bad_ok hm hq (br_t rfl (sy_join (st := st) hm (fun r h => (hr r h).2) (fun lb' L hV hF => ?_)))
    refine ⟨m + 1, sy_gsz_l hm hq (L := L) (fun a ha => ⟨(hV a ha).1, (hV a ha).2.1⟩) ⟨?_, sj_rel hm hd hD hr⟩ m 0 (by omega)⟩
    have hA0 : ∀ j, m ≤ j → bt A j = false := by
      intro j hj
      cases e : bt A j
      · rfl
      · exact absurd (sj_rc_lt hq ((hA j).mp e)) (by omega)
    have e1 : sj_n A = sj_c (bt A) m := sj_c_tail (by omega) hA0
    rw [e1]
    refine congrArg nI (sj_c_ext (fun j hj => ?_))
    have e2 := sj_lab (sj_S_c t w st) hV hF hq hj
    cases e : bt A j
    · exact decide_eq_false (fun z => absurd (e.symm.trans ((hA j).mpr (e2.mp z))) (by decide))
    · exact decide_eq_true (e2.mpr ((hA j).mp e))
/-- no earlier record hangs together with r -/
noncomputable def sj_new (m : Nat) (S : Nat → Nat → Bool) (r : Nat) : Bool := @decide (∀ a, a < r → ¬ sj_rc m S a r) (Classical.propDecidable _)
theorem sj_new_t {m : Nat} {S : Nat → Nat → Bool} {r : Nat} : sj_new m S r = true ↔ ∀ a, a < r → ¬ sj_rc m S a r := by
  unfold sj_new
  exact @decide_eq_true_iff _ (Classical.propDecidable _)
theorem sj_new_f {m : Nat} {S : Nat → Nat → Bool} {r : Nat} (h : ¬ ∀ a, a < r → ¬ sj_rc m S a r) : sj_new m S r = false := by
  cases e : sj_new m S r
  · rfl
  · exact absurd (sj_new_t.mp e) h
theorem sx_grp_l {post : Int32 → Prop} {m : Nat} (hm : m ≤ 20) {d t w : Int32} {st : Nat → Int32} (hp : post (nI (sj_c (sj_new m (sj_S t w st)) m))) : ∀ (e i : Nat) (G : Int32), i + e = m → (∀ j, bt G j = true ↔ ∃ a, a < i ∧ sj_rc m (sj_S t w st) a j) → wX_groups_6 post (nI m) d t w st (e + 1) (nI (sj_c (sj_new m (sj_S t w st)) i)) G (nI i) := by
  intro e
  induction e with
  | zero =>
    intro i G hi hG
    obtain rfl : i = m := by omega
    exact pk_le i i (fun _ => hp) (fun h => absurd h (by omega))
  | succ e ih =>
    intro i G hi hG
    refine pk_le m i (fun h => absurd h (by omega)) (fun _ => sx_in (by omega) (sj_br (fun hb => ?_) (fun hb => ?_)))
    · have hn : sj_new m (sj_S t w st) i = true := sj_new_t.mpr (fun a ha hrc => absurd (hb.symm.trans ((hG i).mpr ⟨a, ha, hrc⟩)) (by decide))
      refine nm_r (e' := nI (sj_c (sj_new m (sj_S t w st)) (i + 1))) ?_ ?_
      · rw [sj_c_t hn]
        exact nI_1 _
      refine sx_link hm (by omega) (fun A hA => nm_e (nm_r (nI_1 i) (ih (i + 1) _ (by omega) (fun j => ?_))))
      rw [b_or, Bool.or_eq_true_iff, hG j, hA j]
      constructor
      · rintro (⟨a, ha, hrc⟩ | hrc)
        · exact ⟨a, by omega, hrc⟩
        · exact ⟨i, by omega, hrc⟩
      · rintro ⟨a, ha, hrc⟩
        by_cases e1 : a = i
        · subst e1; exact Or.inr hrc
        · exact Or.inl ⟨a, by omega, hrc⟩
    · obtain ⟨a, ha, hrc⟩ := (hG i).mp hb
      refine nm_r (nI_1 i) ?_
      rw [← sj_c_f (f := sj_new m (sj_S t w st)) (n := i) (sj_new_f (fun z => z a ha hrc))]
      refine ih (i + 1) G (by omega) (fun j => ?_)
      rw [hG j]
      constructor
      · rintro ⟨b, hb2, hrc2⟩
        exact ⟨b, by omega, hrc2⟩
      · rintro ⟨b, hb2, hrc2⟩
        by_cases e1 : b = i
        · subst e1; exact ⟨a, ha, sj_rc_t hrc hrc2⟩
        · exact ⟨b, by omega, hrc2⟩
theorem sy_grp_l {post : Int32 → SY → Prop} {m : Nat} (hm : m ≤ 20) {t w : Int32} {ai lb : Nat → Int32} {L : Nat → Nat} (hL : ∀ a, a < m → lb a = nI (L a) ∧ L a ≤ a) (hp : post (nI (sj_c (fun j => decide (L j = j)) m)) (nI m, t, w, ai, lb)) : ∀ e i : Nat, i + e = m → wY_groups_8 post (nI m) t w ai lb (e + 1) (nI (sj_c (fun j => decide (L j = j)) i)) (nI i) := by
  intro e
  induction e with
  | zero =>
    intro i hi
    obtain rfl : i = m := by omega
    exact pk_le i i (fun _ => hp) (fun h => absurd h (by omega))
  | succ e ih =>
    intro i hi
    have li := hL i (by omega)
    refine pk_le m i (fun h => absurd h (by omega)) (fun _ => pk_le 20 i (fun h => absurd h (by omega)) (fun _ => ⟨vp_in_nI (by omega) (by omega), ?_⟩))
    rw [nI_clamp (n := i) (by omega)]
    refine pk_eq (L i) i (fun hb => ?_) (fun hb => ?_) li.1
    · refine nm_r (e' := nI (sj_c (fun j => decide (L j = j)) (i + 1))) ?_ (nm_r (nI_1 i) (ih (i + 1) (by omega)))
      rw [sj_c_t (f := fun j => decide (L j = j)) (n := i) (decide_eq_true hb)]
      exact nI_1 _
    · refine nm_r (nI_1 i) ?_
      rw [← sj_c_f (f := fun j => decide (L j = j)) (n := i) (decide_eq_false hb)]
      exact ih (i + 1) (by omega)
theorem i_vc_groups {k : Nat} {u : SX} {v : SY} (I : i_Rel k u v) (hk : k + 3 ≤ 1536) : wpX_groups (fun r => wpY_groups (fun r' v' => r' = r ∧ i_Rel (k + 3) u v') v) u := by
  obtain ⟨m, d, t, w, st, ai, lb, hm, rfl, rfl, ⟨hd, hD⟩, hr⟩ := I
  unfold wpX_groups wpY_groups
  dsimp only
  refine ⟨m + 1, sx_grp_l hm ?_ m 0 0 (by omega) (fun j => ⟨fun h => ?_, fun h => ?_⟩)⟩
  · refine sy_join (st := st) hm (fun r h => (hr r h).2) (fun lb' L hV hF => ?_)
    refine ⟨m + 1, sy_grp_l hm (L := L) (fun a ha => ⟨(hV a ha).1, (hV a ha).2.1⟩) ⟨?_, sj_rel hm hd hD hr⟩ m 0 (by omega)⟩
    refine congrArg nI (sj_c_ext (fun j hj => ?_))
    have l1 := (hV j hj).2.1
    by_cases e : L j = j
    · rw [decide_eq_true e]
      refine (sj_new_t.mpr (fun a ha hrc => ?_)).symm
      have g := hF j hj a (sj_rc_c (sj_S_c t w st) hrc)
      omega
    · rw [decide_eq_false e]
      exact (sj_new_f (fun z => z (L j) (by omega) (sj_rc_c (sj_S_c t w st) (hV j hj).2.2))).symm
  · rw [b_0] at h
    exact absurd h (by decide)
  · obtain ⟨a, ha, _⟩ := h
    exact absurd ha (by omega)
