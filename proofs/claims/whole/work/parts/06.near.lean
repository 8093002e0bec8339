/-! nearest, matches, match, containing -/
theorem sj_near {m q : Nat} (hm : m ≤ 20) (hq : q < m) {d t w : Int32} {st ai lb : Nat → Int32} (hr : ∀ r, r < m → sj_Row ai r (st r)) : ∀ (e i : Nat) (b x y : Int32), i + e = m → ∃ r : Int32, (∀ post : Int32 → Prop, post r → wX_nearest_21 post (nI q) (nI m) d t w st (e + 1) b x y (nI i)) ∧ (∀ post : Int32 → Prop, post r → wY_nearest_21 post (nI q) (nI m) t w ai lb (e + 1) b x y (nI i)) := by
  intro e
  induction e with
  | zero =>
    intro i b x y hi
    obtain rfl : i = m := by omega
    exact ⟨b, fun post hp => pk_le i i (fun _ => hp) (fun h => absurd h (by omega)), fun post hp => pk_le i i (fun _ => hp) (fun h => absurd h (by omega))⟩
  | succ e ih =>
    intro i b x y hi
    by_cases hiq : i = q
    · obtain ⟨r, hX, hY⟩ := ih (i + 1) b x y (by omega)
      refine ⟨r, fun post hp => ?_, fun post hp => ?_⟩
      · exact pk_le m i (fun h => absurd h (by omega)) (fun _ => pk_eq i q (fun _ => nm_r (nI_1 i) (hX post hp)) (fun h => absurd hiq h))
      · exact pk_le m i (fun h => absurd h (by omega)) (fun _ => pk_le 20 i (fun h => absurd h (by omega)) (fun _ => pk_eq i q (fun _ => nm_r (nI_1 i) (hY post hp)) (fun h => absurd hiq h)))
    · have viq : vp_in (nI q) 20 := vp_in_nI (by omega) (by omega)
      have vii : vp_in (nI i) 20 := vp_in_nI (by omega) (by omega)
      have go : ∀ A B : Int32 → Int32 → Prop,
          (∀ post : Int32 → Prop, A (nI (sj_n (st q &&& st i))) (nI (sj_n (st q ||| st i))) → wpX_countOf (fun r_12 => vp_in (nI q) 20 ∧ (vp_in (nI i) 20 ∧ wpX_countOf (fun r_15 => A r_12 r_15) (st (nI q).toNatClampNeg ||| st (nI i).toNatClampNeg))) (st (nI q).toNatClampNeg &&& st (nI i).toNatClampNeg)) := by
        intro A B post hA
        rw [nI_clamp (n := q) (by omega), nI_clamp (n := i) (by omega)]
        exact sx_count ⟨viq, vii, sx_count hA⟩
      have gy : ∀ B : Int32 → Int32 → Prop, B (nI (sj_n (st q &&& st i))) (nI (sj_n (st q ||| st i))) → wpY_both (fun r_12 => wpY_either (fun r_18 => B r_12 r_18) (nI m, t, w, ai, lb) (nI i) (nI q)) (nI m, t, w, ai, lb) (nI i) (nI q) := by
        intro B hB
        rw [Int32.and_comm (st q), Int32.or_comm (st q)] at hB
        exact sy_both (by omega) (by omega) (hr i (by omega)) (hr q hq) (sy_either (by omega) (by omega) (hr i (by omega)) (hr q hq) hB)
      by_cases hnew : b < 0 ∨ ¬ nI (sj_n (st q &&& st i)) * y ≤ x * nI (sj_n (st q ||| st i))
      · obtain ⟨r, hX, hY⟩ := ih (i + 1) (nI i) (nI (sj_n (st q &&& st i))) (nI (sj_n (st q ||| st i))) (by omega)
        refine ⟨r, fun post hp => ?_, fun post hp => ?_⟩
        · refine pk_le m i (fun h => absurd h (by omega)) (fun _ => pk_eq i q (fun h => absurd h hiq) (fun _ => ⟨viq, vii, ?_⟩))
          refine go (fun r_12 r_15 => (((b < 0 → (wX_nearest_93 post (wX_nearest_21 post (nI q) (nI m) d t w st (e + 1)) (nI q) (nI i) r_12 r_15 (nI m) d t w st)) ∧ (¬ b < 0 → ((((r_12 * y) ≤ (x * r_15) → (∀ x5_19 : Int32, x5_19 = nI i + 1 → (wX_nearest_21 post (nI q) (nI m) d t w st (e + 1) b x y x5_19))) ∧ (¬ (r_12 * y) ≤ (x * r_15) → (wX_nearest_93 post (wX_nearest_21 post (nI q) (nI m) d t w st (e + 1)) (nI q) (nI i) r_12 r_15 (nI m) d t w st)))))))) (fun _ _ => True) post ?_
          have g : wX_nearest_93 post (wX_nearest_21 post (nI q) (nI m) d t w st (e + 1)) (nI q) (nI i) (nI (sj_n (st q &&& st i))) (nI (sj_n (st q ||| st i))) (nI m) d t w st := nm_r (nI_1 i) (hX post hp)
          by_cases hb : b < 0
          · exact br_t hb g
          · exact br_f hb (br_f (hnew.resolve_left hb) g)
        · refine pk_le m i (fun h => absurd h (by omega)) (fun _ => pk_le 20 i (fun h => absurd h (by omega)) (fun _ => pk_eq i q (fun h => absurd h hiq) (fun _ => ?_)))
          refine gy (fun r_12 r_18 => (((b < 0 → (wY_nearest_77 post (wY_nearest_21 post (nI q) (nI m) t w ai lb (e + 1)) (nI q) (nI i) r_12 r_18 (nI m) t w ai lb)) ∧ (¬ b < 0 → ((((r_12 * y) ≤ (x * r_18) → (∀ x5_27 : Int32, x5_27 = nI i + 1 → (wY_nearest_21 post (nI q) (nI m) t w ai lb (e + 1) b x y x5_27))) ∧ (¬ (r_12 * y) ≤ (x * r_18) → (wY_nearest_77 post (wY_nearest_21 post (nI q) (nI m) t w ai lb (e + 1)) (nI q) (nI i) r_12 r_18 (nI m) t w ai lb)))))))) ?_
          have g : wY_nearest_77 post (wY_nearest_21 post (nI q) (nI m) t w ai lb (e + 1)) (nI q) (nI i) (nI (sj_n (st q &&& st i))) (nI (sj_n (st q ||| st i))) (nI m) t w ai lb := nm_r (nI_1 i) (hY post hp)
          by_cases hb : b < 0
          · exact br_t hb g
          · exact br_f hb (br_f (hnew.resolve_left hb) g)
      · have hb : ¬ b < 0 := fun z => hnew (Or.inl z)
        have hle : nI (sj_n (st q &&& st i)) * y ≤ x * nI (sj_n (st q ||| st i)) := Classical.byContradiction (fun z => hnew (Or.inr z))
        obtain ⟨r, hX, hY⟩ := ih (i + 1) b x y (by omega)
        refine ⟨r, fun post hp => ?_, fun post hp => ?_⟩
        · refine pk_le m i (fun h => absurd h (by omega)) (fun _ => pk_eq i q (fun h => absurd h hiq) (fun _ => ⟨viq, vii, ?_⟩))
          exact go (fun r_12 r_15 => (((b < 0 → (wX_nearest_93 post (wX_nearest_21 post (nI q) (nI m) d t w st (e + 1)) (nI q) (nI i) r_12 r_15 (nI m) d t w st)) ∧ (¬ b < 0 → ((((r_12 * y) ≤ (x * r_15) → (∀ x5_19 : Int32, x5_19 = nI i + 1 → (wX_nearest_21 post (nI q) (nI m) d t w st (e + 1) b x y x5_19))) ∧ (¬ (r_12 * y) ≤ (x * r_15) → (wX_nearest_93 post (wX_nearest_21 post (nI q) (nI m) d t w st (e + 1)) (nI q) (nI i) r_12 r_15 (nI m) d t w st)))))))) (fun _ _ => True) post (br_f hb (br_t hle (nm_r (nI_1 i) (hX post hp))))
        · refine pk_le m i (fun h => absurd h (by omega)) (fun _ => pk_le 20 i (fun h => absurd h (by omega)) (fun _ => pk_eq i q (fun h => absurd h hiq) (fun _ => ?_)))
          exact gy (fun r_12 r_18 => (((b < 0 → (wY_nearest_77 post (wY_nearest_21 post (nI q) (nI m) t w ai lb (e + 1)) (nI q) (nI i) r_12 r_18 (nI m) t w ai lb)) ∧ (¬ b < 0 → ((((r_12 * y) ≤ (x * r_18) → (∀ x5_27 : Int32, x5_27 = nI i + 1 → (wY_nearest_21 post (nI q) (nI m) t w ai lb (e + 1) b x y x5_27))) ∧ (¬ (r_12 * y) ≤ (x * r_18) → (wY_nearest_77 post (wY_nearest_21 post (nI q) (nI m) t w ai lb (e + 1)) (nI q) (nI i) r_12 r_18 (nI m) t w ai lb)))))))) (br_f hb (br_t hle (nm_r (nI_1 i) (hY post hp))))
theorem i_vc_nearest {k : Nat} {u : SX} {v : SY} (I : i_Rel k u v) (hk : k + 3 ≤ 1536) (v1 : Int32) : wpX_nearest (fun r => wpY_nearest (fun r' => r' = r ∧ i_Rel (k + 3) u v) v v1) u v1 := by
  obtain ⟨m, d, t, w, st, ai, lb, hm, rfl, rfl, ⟨hd, hD⟩, hr⟩ := I
  have R : i_Rel (k + 3) (nI m, d, t, w, st) (nI m, t, w, ai, lb) := sj_rel hm hd hD hr
  unfold wpX_nearest wpY_nearest
  dsimp only
  rcases sj_two v1 (n := m) (by omega) with h | ⟨j, hj, rfl⟩
  · exact sx_rec_no h (br_t rfl (sy_bad_no h (br_f (by decide) ⟨rfl, R⟩)))
  · obtain ⟨r, hX, hY⟩ := sj_near (d := d) (t := t) (w := w) (lb := lb) hm hj (fun r h => (hr r h).2) m 0 (-2) 0 1 (by omega)
    exact sx_rec_ok hm hj (br_f (by decide) ⟨m + 1, hX _ (sy_bad_ok hm hj (br_t rfl ⟨m + 1, hY _ ⟨rfl, R⟩⟩))⟩)
theorem sy_mats_l {post : Int32 → Prop} {m : Nat} (hm : m ≤ 20) {d t w : Int32} {st ai lb : Nat → Int32} (hD : sj_Row ai 20 d) (hr : ∀ r, r < m → sj_Row ai r (st r)) (hp : post (nI (sj_c (fun j => sj_sim t w d (st j)) m))) : ∀ e i : Nat, i + e = m → wY_matches_4 post (nI m) t w ai lb (e + 1) (nI (sj_c (fun j => sj_sim t w d (st j)) i)) (nI i) := by
  intro e
  induction e with
  | zero =>
    intro i hi
    obtain rfl : i = m := by omega
    exact pk_le i i (fun _ => hp) (fun h => absurd h (by omega))
  | succ e ih =>
    intro i hi
    refine pk_le m i (fun h => absurd h (by omega)) (fun _ => pk_le 20 i (fun h => absurd h (by omega)) (fun _ => sy_alike (q := 20) (by omega) (by omega) (hr i (by omega)) hD (sj_br (fun hb => ?_) (fun hb => ?_))))
    · rw [sj_sim_comm] at hb
      refine nm_r (nI_1 i) ?_
      rw [← sj_c_f (f := fun j => sj_sim t w d (st j)) hb]
      exact ih (i + 1) (by omega)
    · rw [sj_sim_comm] at hb
      refine nm_r (e' := nI (sj_c (fun j => sj_sim t w d (st j)) (i + 1))) ?_ (nm_r (nI_1 i) (ih (i + 1) (by omega)))
      rw [sj_c_t (f := fun j => sj_sim t w d (st j)) hb]
      exact nI_1 _
theorem i_vc_matches {k : Nat} {u : SX} {v : SY} (I : i_Rel k u v) (hk : k + 3 ≤ 1536) : wpX_matches (fun r => wpY_matches (fun r' => r' = r ∧ i_Rel (k + 3) u v) v) u := by
  obtain ⟨m, d, t, w, st, ai, lb, hm, rfl, rfl, ⟨hd, hD⟩, hr⟩ := I
  have R : i_Rel (k + 3) (nI m, d, t, w, st) (nI m, t, w, ai, lb) := sj_rel hm hd hD hr
  unfold wpX_matches wpY_matches
  dsimp only
  refine sx_sims hm (fun Q hQ => sx_count ?_)
  rw [sj_M_n hm hQ]
  exact ⟨m + 1, sy_mats_l (st := st) hm hD (fun r h => (hr r h).2) ⟨rfl, R⟩ m 0 (by omega)⟩
theorem sj_mat {m : Nat} (hm : m ≤ 20) {d t w Q : Int32} {st ai lb : Nat → Int32} (hD : sj_Row ai 20 d) (hr : ∀ r, r < m → sj_Row ai r (st r)) (hQ : sj_M m (fun j => sj_sim t w d (st j)) Q) : ∀ (e i : Nat), i + e = 20 → ∃ r : Int32, (∀ post : Int32 → Prop, post r → wX_match_23 post Q (nI m) d t w st (e + 1) (nI i)) ∧ (∀ post : Int32 → Prop, post r → wY_match_14 post (nI m) t w ai lb (e + 1) (nI i)) := by
  intro e
  induction e with
  | zero =>
    intro i hi
    exact ⟨-2, fun post hp => pk_le m i (fun _ => hp) (fun h => absurd h (by omega)), fun post hp => pk_le m i (fun _ => hp) (fun h => absurd h (by omega))⟩
  | succ e ih =>
    intro i hi
    by_cases hmi : m ≤ i
    · exact ⟨-2, fun post hp => pk_le m i (fun _ => hp) (fun h => absurd h (by omega)), fun post hp => pk_le m i (fun _ => hp) (fun h => absurd h (by omega))⟩
    have hb := sj_M_b hQ (j := i) (by omega)
    have hc := sj_sim_comm t w (st i) d
    cases hT : sj_sim t w d (st i)
    · rw [hT] at hb hc
      obtain ⟨r, hX, hY⟩ := ih (i + 1) (by omega)
      refine ⟨r, fun post hp => ?_, fun post hp => ?_⟩
      · exact pk_le m i (fun h => absurd h hmi) (fun _ => sx_in (by omega) (sj_br (fun _ => nm_r (nI_1 i) (hX post hp)) (fun z => absurd (hb.symm.trans z) (by decide))))
      · exact pk_le m i (fun h => absurd h hmi) (fun _ => pk_le 20 i (fun h => absurd h (by omega)) (fun _ => sy_alike (q := 20) (by omega) (by omega) (hr i (by omega)) hD (sj_br (fun _ => nm_r (nI_1 i) (hY post hp)) (fun z => absurd (hc.symm.trans z) (by decide)))))
    · rw [hT] at hb hc
      refine ⟨nI i, fun post hp => ?_, fun post hp => ?_⟩
      · exact pk_le m i (fun h => absurd h hmi) (fun _ => sx_in (by omega) (sj_br (fun z => absurd (hb.symm.trans z) (by decide)) (fun _ => hp)))
      · exact pk_le m i (fun h => absurd h hmi) (fun _ => pk_le 20 i (fun h => absurd h (by omega)) (fun _ => sy_alike (q := 20) (by omega) (by omega) (hr i (by omega)) hD (sj_br (fun z => absurd (hc.symm.trans z) (by decide)) (fun _ => hp))))
theorem i_vc_match {k : Nat} {u : SX} {v : SY} (I : i_Rel k u v) (hk : k + 3 ≤ 1536) (v1 : Int32) : wpX_match (fun r => wpY_match (fun r' => r' = r ∧ i_Rel (k + 3) u v) v v1) u v1 := by
  obtain ⟨m, d, t, w, st, ai, lb, hm, rfl, rfl, ⟨hd, hD⟩, hr⟩ := I
  have R : i_Rel (k + 3) (nI m, d, t, w, st) (nI m, t, w, ai, lb) := sj_rel hm hd hD hr
  unfold wpX_match wpY_match
  dsimp only
  by_cases h0 : v1 < 0
  · exact br_t h0 (br_t h0 ⟨rfl, R⟩)
  · refine br_f h0 ?_
    rcases sj_two v1 (n := 20) (by omega) with h | ⟨j, hj, rfl⟩
    · have h1 : nI 20 ≤ v1 := h.resolve_left h0
      have h2 : ¬ v1 < 20 := Int32.not_lt.mpr h1
      have h3 : ¬ v1 ≤ 19 := fun z => absurd (Int32.le_trans h1 z) (by decide)
      exact br_f h2 (br_f h0 (br_f h3 ⟨rfl, R⟩))
    · refine pk_lt j 20 (fun _ => sx_sims hm (fun Q hQ => ?_)) (fun z => absurd z (by omega))
      obtain ⟨r, hX, hY⟩ := sj_mat (lb := lb) hm hD (fun r h => (hr r h).2) hQ (20 - j) j (by omega)
      exact ⟨20 - j + 1, hX _ (br_f h0 (pk_le j 19 (fun _ => ⟨20 - j + 1, hY _ ⟨rfl, R⟩⟩) (fun z => absurd z (by omega))))⟩
theorem sj_sub {a d : Int32} (hd : sj_Ok d) : (a &&& d) = d ↔ sj_n (a &&& d) = sj_n d := by
  refine ⟨fun h => by rw [h], fun h => b_ext (fun i _ => ?_)⟩
  by_cases e : i < 30
  · refine sj_c_eq (n := 30) (fun j _ hj => ?_) h i e
    rw [b_and] at hj
    exact (Bool.and_eq_true_iff.mp hj).2
  · rw [b_and, hd.1 i (by omega), Bool.and_false]
theorem sx_cont_l {post : Int32 → Prop} {m : Nat} (hm : m ≤ 20) {d t w : Int32} {st : Nat → Int32} (hp : post (nI (sj_c (fun j => decide ((st j &&& d) = d)) m))) : ∀ e i : Nat, i + e = m → wX_containing_4 post (nI m) d t w st (e + 1) (nI (sj_c (fun j => decide ((st j &&& d) = d)) i)) (nI i) := by
  intro e
  induction e with
  | zero =>
    intro i hi
    obtain rfl : i = m := by omega
    exact pk_le i i (fun _ => hp) (fun h => absurd h (by omega))
  | succ e ih =>
    intro i hi
    refine pk_le m i (fun h => absurd h (by omega)) (fun _ => ⟨vp_in_nI (by omega) (by omega), ?_⟩)
    rw [nI_clamp (n := i) (by omega)]
    refine br_c (fun hb => ?_) (fun hb => ?_)
    · refine nm_r (e' := nI (sj_c (fun j => decide ((st j &&& d) = d)) (i + 1))) ?_ (nm_r (nI_1 i) (ih (i + 1) (by omega)))
      rw [sj_c_t (f := fun j => decide ((st j &&& d) = d)) (n := i) (decide_eq_true hb)]
      exact nI_1 _
    · refine nm_r (nI_1 i) ?_
      rw [← sj_c_f (f := fun j => decide ((st j &&& d) = d)) (n := i) (decide_eq_false hb)]
      exact ih (i + 1) (by omega)
theorem sy_cont_l {post : Int32 → Prop} {m : Nat} (hm : m ≤ 20) {d t w : Int32} {st ai lb : Nat → Int32} (hd : sj_Ok d) (hD : sj_Row ai 20 d) (hr : ∀ r, r < m → sj_Row ai r (st r)) (hp : post (nI (sj_c (fun j => decide ((st j &&& d) = d)) m))) : ∀ e i : Nat, i + e = m → wY_containing_11 post (nI (sj_n d)) (nI m) t w ai lb (e + 1) (nI (sj_c (fun j => decide ((st j &&& d) = d)) i)) (nI i) := by
  have h30 := sj_n_le d
  intro e
  induction e with
  | zero =>
    intro i hi
    obtain rfl : i = m := by omega
    exact pk_le i i (fun _ => hp) (fun h => absurd h (by omega))
  | succ e ih =>
    intro i hi
    have h31 := sj_n_le (st i &&& d)
    refine pk_le m i (fun h => absurd h (by omega)) (fun _ => pk_le 20 i (fun h => absurd h (by omega)) (fun _ => sy_both (q := 20) (by omega) (by omega) (hr i (by omega)) hD (pk_eq (sj_n (st i &&& d)) (sj_n d) (fun hb => ?_) (fun hb => ?_))))
    · refine nm_r (e' := nI (sj_c (fun j => decide ((st j &&& d) = d)) (i + 1))) ?_ (nm_r (nI_1 i) (ih (i + 1) (by omega)))
      rw [sj_c_t (f := fun j => decide ((st j &&& d) = d)) (n := i) (decide_eq_true ((sj_sub hd).mpr hb))]
      exact nI_1 _
    · refine nm_r (nI_1 i) ?_
      rw [← sj_c_f (f := fun j => decide ((st j &&& d) = d)) (n := i) (decide_eq_false (fun z => hb ((sj_sub hd).mp z)))]
      exact ih (i + 1) (by omega)
theorem i_vc_containing {k : Nat} {u : SX} {v : SY} (I : i_Rel k u v) (hk : k + 3 ≤ 1536) : wpX_containing (fun r => wpY_containing (fun r' => r' = r ∧ i_Rel (k + 3) u v) v) u := by
  obtain ⟨m, d, t, w, st, ai, lb, hm, rfl, rfl, ⟨hd, hD⟩, hr⟩ := I
  have R : i_Rel (k + 3) (nI m, d, t, w, st) (nI m, t, w, ai, lb) := sj_rel hm hd hD hr
  unfold wpX_containing wpY_containing
  dsimp only
  refine ⟨m + 1, sx_cont_l hm ?_ m 0 (by omega)⟩
  exact sy_size (r := 20) (by omega) hD ⟨m + 1, sy_cont_l (st := st) hm hd hD (fun r h => (hr r h).2) ⟨rfl, R⟩ m 0 (by omega)⟩
