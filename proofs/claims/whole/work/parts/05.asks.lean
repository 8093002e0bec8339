/-! the questions, but for the groups -/
theorem i_vc_records {k : Nat} {u : SX} {v : SY} (I : i_Rel k u v) (hk : k + 3 ≤ 1536) : wpX_records (fun r => wpY_records (fun r' => r' = r ∧ i_Rel (k + 3) u v) v) u := by
  obtain ⟨m, d, t, w, st, ai, lb, hm, rfl, rfl, ⟨hd, hD⟩, hr⟩ := I
  exact ⟨rfl, sj_rel hm hd hD hr⟩
theorem i_vc_size {k : Nat} {u : SX} {v : SY} (I : i_Rel k u v) (hk : k + 3 ≤ 1536) (v1 : Int32) : wpX_size (fun r => wpY_size (fun r' => r' = r ∧ i_Rel (k + 3) u v) v v1) u v1 := by
  obtain ⟨m, d, t, w, st, ai, lb, hm, rfl, rfl, ⟨hd, hD⟩, hr⟩ := I
  have R : i_Rel (k + 3) (nI m, d, t, w, st) (nI m, t, w, ai, lb) := sj_rel hm hd hD hr
  unfold wpX_size wpY_size
  dsimp only
  rcases sj_two v1 (n := m) (by omega) with h | ⟨j, hj, rfl⟩
  · exact sx_rec_no h (br_t rfl (sy_bad_no h (br_f (by decide) ⟨rfl, R⟩)))
  · refine sx_rec_ok hm hj (br_f (by decide) ⟨vp_in_nI (by omega) (by omega), ?_⟩)
    rw [nI_clamp (n := j) (by omega)]
    exact sx_count (sy_bad_ok hm hj (br_t rfl (sy_size (by omega) (hr j hj).2 ⟨rfl, R⟩)))
theorem i_vc_has {k : Nat} {u : SX} {v : SY} (I : i_Rel k u v) (hk : k + 3 ≤ 1536) (v1 : Int32) (v2 : Int32) : wpX_has (fun r => wpY_has (fun r' => r' = r ∧ i_Rel (k + 3) u v) v v1 v2) u v1 v2 := by
  obtain ⟨m, d, t, w, st, ai, lb, hm, rfl, rfl, ⟨hd, hD⟩, hr⟩ := I
  have R : i_Rel (k + 3) (nI m, d, t, w, st) (nI m, t, w, ai, lb) := sj_rel hm hd hD hr
  unfold wpX_has wpY_has
  dsimp only
  rcases sj_two v1 (n := m) (by omega) with h | ⟨j, hj, rfl⟩
  · exact sx_rec_no h (br_t rfl (sy_bad_no h (br_f (by decide) ⟨rfl, R⟩)))
  · rcases sj_two v2 (n := 30) (by omega) with h | ⟨x, hx, rfl⟩
    · exact sx_rec_ok hm hj (br_f (by decide) (sx_tok_no h (br_t rfl (sy_bad_ok hm hj (br_t rfl (sy_tok_no h (br_f (by decide) ⟨rfl, R⟩)))))))
    · refine sx_rec_ok hm hj (br_f (by decide) (sx_tok_ok hx (br_f (by decide) ⟨vp_in_nI (by omega) (by omega), ?_⟩)))
      rw [nI_clamp (n := j) (by omega)]
      refine sx_in (by omega) (sj_br (fun hb => ?_) (fun hb => ?_))
      · exact sy_bad_ok hm hj (br_t rfl (sy_tok_ok hx (br_t rfl (sy_rd (by omega) hx (hr j hj).2 (sj_ix j x) (fun _ => ⟨rfl, R⟩) (fun z => absurd (hb.symm.trans z) (by decide))))))
      · exact sy_bad_ok hm hj (br_t rfl (sy_tok_ok hx (br_t rfl (sy_rd (by omega) hx (hr j hj).2 (sj_ix j x) (fun z => absurd (hb.symm.trans z) (by decide)) (fun _ => ⟨rfl, R⟩)))))
theorem sx_freq_l {post : Int32 → Prop} {m x : Nat} (hm : m ≤ 20) (hx : x < 30) {d t w : Int32} {st : Nat → Int32} (hp : post (nI (sj_c (fun r => bt (st r) x) m))) : ∀ e i : Nat, i + e = m → wX_frequency_13 post (nI x) (nI m) d t w st (e + 1) (nI (sj_c (fun r => bt (st r) x) i)) (nI i) := by
  intro e
  induction e with
  | zero =>
    intro i hi
    obtain rfl : i = m := by omega
    exact pk_le i i (fun _ => hp) (fun h => absurd h (by omega))
  | succ e ih =>
    intro i hi
    refine pk_le m i (fun h => absurd h (by omega)) (fun _ => ⟨vp_in_nI (by omega) (by omega), ?_⟩)
    rw [nI_clamp (n := i) (by omega)]
    refine sx_in (by omega) (sj_br (fun hb => ?_) (fun hb => ?_))
    · refine nm_r (nI_1 i) ?_
      rw [← sj_c_f (f := fun r => bt (st r) x) hb]
      exact ih (i + 1) (by omega)
    · refine nm_r (e' := nI (sj_c (fun r => bt (st r) x) (i + 1))) ?_ (nm_r (nI_1 i) (ih (i + 1) (by omega)))
      rw [sj_c_t (f := fun r => bt (st r) x) hb]
      exact nI_1 _
theorem sy_freq_l {post : Int32 → Prop} {m x : Nat} (hm : m ≤ 20) (hx : x < 30) {t w : Int32} {st ai lb : Nat → Int32} (hr : ∀ r, r < m → sj_Row ai r (st r)) (hp : post (nI (sj_c (fun r => bt (st r) x) m))) : ∀ e i : Nat, i + e = m → wY_frequency_14 post (nI x) (nI m) t w ai lb (e + 1) (nI (sj_c (fun r => bt (st r) x) i)) (nI i) := by
  intro e
  induction e with
  | zero =>
    intro i hi
    obtain rfl : i = m := by omega
    exact pk_le i i (fun _ => hp) (fun h => absurd h (by omega))
  | succ e ih =>
    intro i hi
    refine pk_le m i (fun h => absurd h (by omega)) (fun _ => pk_le 20 i (fun h => absurd h (by omega)) (fun _ => sy_rd (by omega) hx (hr i (by omega)) (sj_ix i x) (fun hb => ?_) (fun hb => ?_)))
    · refine nm_r (nI_1 i) ?_
      rw [← sj_c_f (f := fun r => bt (st r) x) hb]
      exact ih (i + 1) (by omega)
    · refine nm_r (e' := nI (sj_c (fun r => bt (st r) x) (i + 1))) ?_ (nm_r (nI_1 i) (ih (i + 1) (by omega)))
      rw [sj_c_t (f := fun r => bt (st r) x) hb]
      exact nI_1 _
theorem i_vc_frequency {k : Nat} {u : SX} {v : SY} (I : i_Rel k u v) (hk : k + 3 ≤ 1536) (v1 : Int32) : wpX_frequency (fun r => wpY_frequency (fun r' => r' = r ∧ i_Rel (k + 3) u v) v v1) u v1 := by
  obtain ⟨m, d, t, w, st, ai, lb, hm, rfl, rfl, ⟨hd, hD⟩, hr⟩ := I
  have R : i_Rel (k + 3) (nI m, d, t, w, st) (nI m, t, w, ai, lb) := sj_rel hm hd hD hr
  unfold wpX_frequency wpY_frequency
  dsimp only
  rcases sj_two v1 (n := 30) (by omega) with h | ⟨x, hx, rfl⟩
  · exact sx_tok_no h (br_t rfl (sy_tok_no h (br_f (by decide) ⟨rfl, R⟩)))
  · refine sx_tok_ok hx (br_f (by decide) ⟨m + 1, sx_freq_l hm hx ?_ m 0 (by omega)⟩)
    exact sy_tok_ok hx (br_t rfl ⟨m + 1, sy_freq_l hm hx (fun r h => (hr r h).2) ⟨rfl, R⟩ m 0 (by omega)⟩)
theorem i_vc_common {k : Nat} {u : SX} {v : SY} (I : i_Rel k u v) (hk : k + 3 ≤ 1536) (v1 : Int32) (v2 : Int32) : wpX_common (fun r => wpY_common (fun r' => r' = r ∧ i_Rel (k + 3) u v) v v1 v2) u v1 v2 := by
  obtain ⟨m, d, t, w, st, ai, lb, hm, rfl, rfl, ⟨hd, hD⟩, hr⟩ := I
  have R : i_Rel (k + 3) (nI m, d, t, w, st) (nI m, t, w, ai, lb) := sj_rel hm hd hD hr
  unfold wpX_common wpY_common
  dsimp only
  rcases sj_two v1 (n := m) (by omega) with h | ⟨j, hj, rfl⟩
  · exact sx_rec_no h (br_t rfl (sy_bad_no h (br_f (by decide) ⟨rfl, R⟩)))
  · rcases sj_two v2 (n := m) (by omega) with h | ⟨x, hx, rfl⟩
    · exact sx_rec_ok hm hj (br_f (by decide) (sx_rec_no h (br_t rfl (sy_bad_ok hm hj (br_t rfl (sy_bad_no h (br_f (by decide) ⟨rfl, R⟩)))))))
    · refine sx_rec_ok hm hj (br_f (by decide) (sx_rec_ok hm hx (br_f (by decide) ⟨vp_in_nI (by omega) (by omega), vp_in_nI (by omega) (by omega), ?_⟩)))
      rw [nI_clamp (n := j) (by omega), nI_clamp (n := x) (by omega)]
      exact sx_count (sy_bad_ok hm hj (br_t rfl (sy_bad_ok hm hx (br_t rfl (sy_both (by omega) (by omega) (hr j hj).2 (hr x hx).2 ⟨rfl, R⟩)))))
theorem i_vc_similar {k : Nat} {u : SX} {v : SY} (I : i_Rel k u v) (hk : k + 3 ≤ 1536) (v1 : Int32) (v2 : Int32) : wpX_similar (fun r => wpY_similar (fun r' => r' = r ∧ i_Rel (k + 3) u v) v v1 v2) u v1 v2 := by
  obtain ⟨m, d, t, w, st, ai, lb, hm, rfl, rfl, ⟨hd, hD⟩, hr⟩ := I
  have R : i_Rel (k + 3) (nI m, d, t, w, st) (nI m, t, w, ai, lb) := sj_rel hm hd hD hr
  unfold wpX_similar wpY_similar
  dsimp only
  rcases sj_two v1 (n := m) (by omega) with h | ⟨j, hj, rfl⟩
  · exact sx_rec_no h (br_t rfl (sy_bad_no h (br_f (by decide) ⟨rfl, R⟩)))
  · rcases sj_two v2 (n := m) (by omega) with h | ⟨x, hx, rfl⟩
    · exact sx_rec_ok hm hj (br_f (by decide) (sx_rec_no h (br_t rfl (sy_bad_ok hm hj (br_t rfl (sy_bad_no h (br_f (by decide) ⟨rfl, R⟩)))))))
    · refine sx_rec_ok hm hj (br_f (by decide) (sx_rec_ok hm hx (br_f (by decide) ⟨vp_in_nI (by omega) (by omega), vp_in_nI (by omega) (by omega), ?_⟩)))
      rw [nI_clamp (n := j) (by omega), nI_clamp (n := x) (by omega)]
      refine sx_sim (sj_br (fun hb => ?_) (fun hb => ?_))
      · exact sy_bad_ok hm hj (br_t rfl (sy_bad_ok hm hx (br_t rfl (sy_alike (by omega) (by omega) (hr j hj).2 (hr x hx).2 (sj_br (fun _ => ⟨rfl, R⟩) (fun z => absurd (hb.symm.trans z) (by decide)))))))
      · exact sy_bad_ok hm hj (br_t rfl (sy_bad_ok hm hx (br_t rfl (sy_alike (by omega) (by omega) (hr j hj).2 (hr x hx).2 (sj_br (fun z => absurd (hb.symm.trans z) (by decide)) (fun _ => ⟨rfl, R⟩))))))
/-- record j is another than q and similar to it -/
def sj_T (t w : Int32) (st : Nat → Int32) (q j : Nat) : Bool := sj_sim t w (st q) (st j) && !decide (j = q)
theorem sj_T_comm (t w : Int32) (st : Nat → Int32) (a b : Nat) : sj_T t w st a b = sj_T t w st b a := by
  unfold sj_T
  rw [sj_sim_comm, show decide (b = a) = decide (a = b) from decide_eq_decide.mpr ⟨Eq.symm, Eq.symm⟩]
theorem sj_T_self (t w : Int32) (st : Nat → Int32) (a : Nat) : sj_T t w st a a = false := by
  unfold sj_T
  rw [decide_eq_true rfl, Bool.not_true, Bool.and_false]
theorem sx_pairs_l {post : Int32 → Prop} {m : Nat} (hm : m ≤ 20) {d t w : Int32} {st : Nat → Int32} (hp : post (nI (sj_s (fun a => sj_c (sj_T t w st a) m) m / 2))) : ∀ e i : Nat, i + e = m → wX_pairs_4 post (nI m) d t w st (e + 1) (nI (sj_s (fun a => sj_c (sj_T t w st a) m) i)) (nI i) := by
  intro e
  induction e with
  | zero =>
    intro i hi
    obtain rfl : i = m := by omega
    refine pk_le i i (fun _ => ⟨by decide, ?_⟩) (fun h => absurd h (by omega))
    have hs : sj_s (fun a => sj_c (sj_T t w st a) i) i ≤ i * i := sj_s_le (fun j _ => sj_c_le _ i)
    have hs2 : i * i ≤ 20 * 20 := Nat.mul_le_mul hm hm
    rw [show nI (sj_s (fun a => sj_c (sj_T t w st a) i) i) / 2 = nI (sj_s (fun a => sj_c (sj_T t w st a) i) i / 2) from pk_div (d := 2) (by omega) (by omega) (by omega)]
    exact hp
  | succ e ih =>
    intro i hi
    refine pk_le m i (fun h => absurd h (by omega)) (fun _ => sx_oth hm (by omega) (fun R hR => sx_count ?_))
    rw [sj_M_n hm hR]
    exact nm_r (nI_add _ _) (nm_r (nI_1 i) (ih (i + 1) (by omega)))
theorem sy_pairs_in {post : Int32 → Prop} {J : Int32 → Int32 → Prop} {m a c : Nat} (hm : m ≤ 20) (ha : a < m) {t w : Int32} {st ai lb : Nat → Int32} (hr : ∀ r, r < m → sj_Row ai r (st r)) (hJ : J (nI (c + sj_c (fun b => decide (a < b) && sj_T t w st a b) m)) (nI (a + 1))) : ∀ e i : Nat, i + e = m → a < i → wY_pairs_22 post J (nI a) (nI m) t w ai lb (e + 1) (nI (c + sj_c (fun b => decide (a < b) && sj_T t w st a b) i)) (nI i) := by
  intro e
  induction e with
  | zero =>
    intro i hi hai
    obtain rfl : i = m := by omega
    exact pk_le i i (fun _ => nm_r (nI_1 a) hJ) (fun h => absurd h (by omega))
  | succ e ih =>
    intro i hi hai
    have ei : (decide (a < i) && sj_T t w st a i) = sj_sim t w (st a) (st i) := by
      unfold sj_T
      rw [decide_eq_true hai, decide_eq_false (by omega), Bool.true_and, Bool.not_false, Bool.and_true]
    refine pk_le m i (fun h => absurd h (by omega)) (fun _ => pk_le 20 i (fun h => absurd h (by omega)) (fun _ => sy_alike (by omega) (by omega) (hr a ha) (hr i (by omega)) (sj_br (fun hb => ?_) (fun hb => ?_))))
    · refine nm_r (nI_1 i) ?_
      rw [← sj_c_f (f := fun b => decide (a < b) && sj_T t w st a b) (n := i) (ei.trans hb)]
      exact ih (i + 1) (by omega) (by omega)
    · refine nm_r (e' := nI (c + sj_c (fun b => decide (a < b) && sj_T t w st a b) (i + 1))) ?_ (nm_r (nI_1 i) (ih (i + 1) (by omega) (by omega)))
      rw [sj_c_t (f := fun b => decide (a < b) && sj_T t w st a b) (n := i) (ei.trans hb)]
      exact nI_1 _
theorem sy_pairs_l {post : Int32 → Prop} {m : Nat} (hm : m ≤ 20) {t w : Int32} {st ai lb : Nat → Int32} (hr : ∀ r, r < m → sj_Row ai r (st r)) (hp : post (nI (sj_s (fun a => sj_c (fun b => decide (a < b) && sj_T t w st a b) m) m))) : ∀ e i : Nat, i + e = m → wY_pairs_4 post (nI m) t w ai lb (e + 1) (nI (sj_s (fun a => sj_c (fun b => decide (a < b) && sj_T t w st a b) m) i)) (nI i) := by
  intro e
  induction e with
  | zero =>
    intro i hi
    obtain rfl : i = m := by omega
    exact pk_le i i (fun _ => hp) (fun h => absurd h (by omega))
  | succ e ih =>
    intro i hi
    refine pk_le m i (fun h => absurd h (by omega)) (fun _ => pk_le 20 i (fun h => absurd h (by omega)) (fun _ => nm_r (nI_1 i) ⟨m - (i + 1) + 1, ?_⟩))
    have z : sj_c (fun b => decide (i < b) && sj_T t w st i b) (i + 1) = 0 := sj_c_zero (fun j hj => by
      show (decide (i < j) && sj_T t w st i j) = false
      rw [decide_eq_false (by omega), Bool.false_and])
    have g := sy_pairs_in (post := post) (J := wY_pairs_4 post (nI m) t w ai lb (e + 1)) (lb := lb) (a := i) (c := sj_s (fun a => sj_c (fun b => decide (a < b) && sj_T t w st a b) m) i) hm (by omega) hr (ih (i + 1) (by omega)) (m - (i + 1)) (i + 1) (by omega) (by omega)
    rw [z] at g
    exact g
theorem i_vc_pairs {k : Nat} {u : SX} {v : SY} (I : i_Rel k u v) (hk : k + 3 ≤ 1536) : wpX_pairs (fun r => wpY_pairs (fun r' => r' = r ∧ i_Rel (k + 3) u v) v) u := by
  obtain ⟨m, d, t, w, st, ai, lb, hm, rfl, rfl, ⟨hd, hD⟩, hr⟩ := I
  have R : i_Rel (k + 3) (nI m, d, t, w, st) (nI m, t, w, ai, lb) := sj_rel hm hd hD hr
  unfold wpX_pairs wpY_pairs
  dsimp only
  refine ⟨m + 1, sx_pairs_l hm ?_ m 0 (by omega)⟩
  refine ⟨m + 1, sy_pairs_l (st := st) hm (fun r h => (hr r h).2) ⟨?_, R⟩ m 0 (by omega)⟩
  rw [sj_pairs (sj_T t w st) (sj_T_comm t w st) (sj_T_self t w st) m, Nat.mul_div_cancel_left _ (by omega)]
theorem sy_deg_l {post : Int32 → Prop} {m q : Nat} (hm : m ≤ 20) (hq : q < m) {t w : Int32} {st ai lb : Nat → Int32} (hr : ∀ r, r < m → sj_Row ai r (st r)) (hp : post (nI (sj_c (sj_T t w st q) m))) : ∀ e i : Nat, i + e = m → wY_degree_14 post (nI q) (nI m) t w ai lb (e + 1) (nI (sj_c (sj_T t w st q) i)) (nI i) := by
  intro e
  induction e with
  | zero =>
    intro i hi
    obtain rfl : i = m := by omega
    exact pk_le i i (fun _ => hp) (fun h => absurd h (by omega))
  | succ e ih =>
    intro i hi
    refine pk_le m i (fun h => absurd h (by omega)) (fun _ => pk_le 20 i (fun h => absurd h (by omega)) (fun _ => pk_eq i q (fun h => ?_) (fun h => sy_alike (by omega) (by omega) (hr i (by omega)) (hr q hq) (sj_br (fun hb => ?_) (fun hb => ?_)))))
    · refine nm_r (nI_1 i) ?_
      rw [← sj_c_f (f := sj_T t w st q) (n := i) (by rw [h]; exact sj_T_self t w st q)]
      exact ih (i + 1) (by omega)
    · refine nm_r (nI_1 i) ?_
      rw [← sj_c_f (f := sj_T t w st q) (n := i) (by unfold sj_T; rw [sj_sim_comm, hb, Bool.false_and])]
      exact ih (i + 1) (by omega)
    · refine nm_r (e' := nI (sj_c (sj_T t w st q) (i + 1))) ?_ (nm_r (nI_1 i) (ih (i + 1) (by omega)))
      rw [sj_c_t (f := sj_T t w st q) (n := i) (by unfold sj_T; rw [sj_sim_comm, hb, decide_eq_false h]; rfl)]
      exact nI_1 _
theorem i_vc_degree {k : Nat} {u : SX} {v : SY} (I : i_Rel k u v) (hk : k + 3 ≤ 1536) (v1 : Int32) : wpX_degree (fun r => wpY_degree (fun r' => r' = r ∧ i_Rel (k + 3) u v) v v1) u v1 := by
  obtain ⟨m, d, t, w, st, ai, lb, hm, rfl, rfl, ⟨hd, hD⟩, hr⟩ := I
  have R : i_Rel (k + 3) (nI m, d, t, w, st) (nI m, t, w, ai, lb) := sj_rel hm hd hD hr
  unfold wpX_degree wpY_degree
  dsimp only
  rcases sj_two v1 (n := m) (by omega) with h | ⟨j, hj, rfl⟩
  · exact sx_rec_no h (br_t rfl (sy_bad_no h (br_f (by decide) ⟨rfl, R⟩)))
  · refine sx_rec_ok hm hj (br_f (by decide) (sx_oth hm hj (fun Q hQ => sx_count ?_)))
    rw [sj_M_n hm hQ]
    exact sy_bad_ok hm hj (br_t rfl ⟨m + 1, sy_deg_l (st := st) hm hj (fun r h => (hr r h).2) ⟨rfl, R⟩ m 0 (by omega)⟩)
/-- both walks in step: one answer for both -/
theorem sj_part {m q : Nat} (hm : m ≤ 20) (hq : q < m) {d t w p Q : Int32} {st ai lb : Nat → Int32} (hr : ∀ r, r < m → sj_Row ai r (st r)) (hQ : sj_M m (sj_T t w st q) Q) : ∀ (e i : Nat) (c : Int32), i + e = m → ∃ r : Int32, (∀ post : Int32 → Prop, post r → wX_partner_22 post p Q (nI m) d t w st (e + 1) c (nI i)) ∧ (∀ post : Int32 → Prop, post r → wY_partner_15 post (nI q) p (nI m) t w ai lb (e + 1) c (nI i)) := by
  intro e
  induction e with
  | zero =>
    intro i c hi
    obtain rfl : i = m := by omega
    exact ⟨-2, fun post hp => pk_le i i (fun _ => hp) (fun h => absurd h (by omega)), fun post hp => pk_le i i (fun _ => hp) (fun h => absurd h (by omega))⟩
  | succ e ih =>
    intro i c hi
    have hb := sj_M_b hQ (j := i) (by omega)
    cases hT : sj_T t w st q i
    · rw [hT] at hb
      obtain ⟨r, hX, hY⟩ := ih (i + 1) c (by omega)
      refine ⟨r, fun post hp => ?_, fun post hp => ?_⟩
      · refine pk_le m i (fun h => absurd h (by omega)) (fun _ => sx_in (by omega) (sj_br (fun _ => nm_r (nI_1 i) (hX post hp)) (fun z => absurd (hb.symm.trans z) (by decide))))
      · refine pk_le m i (fun h => absurd h (by omega)) (fun _ => pk_le 20 i (fun h => absurd h (by omega)) (fun _ => pk_eq i q (fun h => nm_r (nI_1 i) (hY post hp)) (fun h => sy_alike (by omega) (by omega) (hr i (by omega)) (hr q hq) (sj_br (fun _ => nm_r (nI_1 i) (hY post hp)) (fun z => ?_)))))
        unfold sj_T at hT
        rw [sj_sim_comm, z, decide_eq_false h] at hT
        exact absurd hT (by decide)
    · rw [hT] at hb
      unfold sj_T at hT
      have h1 : sj_sim t w (st i) (st q) = true := by rw [sj_sim_comm]; exact (Bool.and_eq_true_iff.mp hT).1
      have h2 : i ≠ q := fun z => by
        rw [decide_eq_true z, Bool.not_true, Bool.and_false] at hT
        exact absurd hT (by decide)
      by_cases hc : c = p
      · refine ⟨nI i, fun post hp => ?_, fun post hp => ?_⟩
        · exact pk_le m i (fun h => absurd h (by omega)) (fun _ => sx_in (by omega) (sj_br (fun z => absurd (hb.symm.trans z) (by decide)) (fun _ => br_t hc hp)))
        · exact pk_le m i (fun h => absurd h (by omega)) (fun _ => pk_le 20 i (fun h => absurd h (by omega)) (fun _ => pk_eq i q (fun h => absurd h h2) (fun h => sy_alike (by omega) (by omega) (hr i (by omega)) (hr q hq) (sj_br (fun z => absurd (h1.symm.trans z) (by decide)) (fun _ => br_t hc hp)))))
      · obtain ⟨r, hX, hY⟩ := ih (i + 1) (c + 1) (by omega)
        refine ⟨r, fun post hp => ?_, fun post hp => ?_⟩
        · exact pk_le m i (fun h => absurd h (by omega)) (fun _ => sx_in (by omega) (sj_br (fun z => absurd (hb.symm.trans z) (by decide)) (fun _ => br_f hc (nm_e (nm_r (nI_1 i) (hX post hp))))))
        · exact pk_le m i (fun h => absurd h (by omega)) (fun _ => pk_le 20 i (fun h => absurd h (by omega)) (fun _ => pk_eq i q (fun h => absurd h h2) (fun h => sy_alike (by omega) (by omega) (hr i (by omega)) (hr q hq) (sj_br (fun z => absurd (h1.symm.trans z) (by decide)) (fun _ => br_f hc (nm_e (nm_r (nI_1 i) (hY post hp))))))))
theorem i_vc_partner {k : Nat} {u : SX} {v : SY} (I : i_Rel k u v) (hk : k + 3 ≤ 1536) (v1 : Int32) (v2 : Int32) : wpX_partner (fun r => wpY_partner (fun r' => r' = r ∧ i_Rel (k + 3) u v) v v1 v2) u v1 v2 := by
  obtain ⟨m, d, t, w, st, ai, lb, hm, rfl, rfl, ⟨hd, hD⟩, hr⟩ := I
  have R : i_Rel (k + 3) (nI m, d, t, w, st) (nI m, t, w, ai, lb) := sj_rel hm hd hD hr
  unfold wpX_partner wpY_partner
  dsimp only
  rcases sj_two v1 (n := m) (by omega) with h | ⟨j, hj, rfl⟩
  · exact sx_rec_no h (br_t rfl (sy_bad_no h (br_f (by decide) ⟨rfl, R⟩)))
  · refine sx_rec_ok hm hj (br_f (by decide) (sx_oth hm hj (fun Q hQ => ?_)))
    obtain ⟨r, hX, hY⟩ := sj_part (d := d) (p := v2) (lb := lb) hm hj (fun r h => (hr r h).2) hQ m 0 0 (by omega)
    exact ⟨m + 1, hX _ (sy_bad_ok hm hj (br_t rfl ⟨m + 1, hY _ ⟨rfl, R⟩⟩))⟩
