/-! the relation, and the methods that change something -/
/-- a set of tokens: no bit beyond 29, at most 12 members -/
def sj_Ok (s : Int32) : Prop := (∀ x, 30 ≤ x → bt s x = false) ∧ sj_n s ≤ 12
/-- row 20 of the reference's table is the draft, row r is record r; the rest is held alike -/
def i_Rel (k : Nat) (u : SX) (v : SY) : Prop := ∃ (m : Nat) (d t w : Int32) (st ai lb : Nat → Int32), m ≤ 20 ∧ u = (nI m, d, t, w, st) ∧ v = (nI m, t, w, ai, lb) ∧ (sj_Ok d ∧ sj_Row ai 20 d) ∧ ∀ r, r < m → sj_Ok (st r) ∧ sj_Row ai r (st r)
theorem i_up {k : Nat} {u : SX} {v : SY} (h : i_Rel k u v) : i_Rel (k + 3) u v := h
theorem sj_rel {k m : Nat} {d t w : Int32} {st ai lb : Nat → Int32} (hm : m ≤ 20) (h : sj_Ok d) (hD : sj_Row ai 20 d) (hr : ∀ r, r < m → sj_Ok (st r) ∧ sj_Row ai r (st r)) : i_Rel k (nI m, d, t, w, st) (nI m, t, w, ai, lb) :=
  ⟨m, d, t, w, st, ai, lb, hm, rfl, rfl, ⟨h, hD⟩, hr⟩
theorem sj_ok0 : sj_Ok 0 := ⟨fun x _ => b_0 x, by decide +kernel⟩
theorem i_vc0 : wpX_init (fun u => wpY_init (fun v => i_Rel 0 u v)) :=
  sj_rel (k := 0) (m := 0) (by omega) sj_ok0 (fun x _ => by rw [b_0]; rfl) (fun r hr => absurd hr (by omega))
theorem sj_two (p : Int32) {n : Nat} (hn : n < 2 ^ 31) : (p < 0 ∨ nI n ≤ p) ∨ ∃ j : Nat, j < n ∧ p = nI j := by
  rcases pk_ix p hn with h | h | h
  · exact Or.inl (Or.inl h)
  · exact Or.inl (Or.inr h)
  · exact Or.inr h
/-- one cell of the draft's row is written -/
theorem sy_put {P : (Nat → Int32) → Prop} {ai : Nat → Int32} {d g : Int32} {j : Nat} (b : Bool) (hj : j < 30) (hD : sj_Row ai 20 d) (hg : ∀ x, x < 30 → bt g x = if x = j then b else bt d x) (hp : ∀ ai' : Nat → Int32, sj_Row ai' 20 g → (∀ i, i < 600 → ai' i = ai i) → P ai') : vp_in ((600 : Int32) + nI j) 630 ∧ ∀ a' : Nat → Int32, a' = upd ai ((600 : Int32) + nI j).toNatClampNeg (vp_nar .boolean (sj_b b)) → P a' := by
  rw [sj_i6, nI_clamp (by omega), sj_nar]
  refine ⟨vp_in_nI (by omega) (by omega), nm_e (hp _ (fun x hx => ?_) (fun i hi => pk_un (by omega)))⟩
  rw [hg x hx]
  by_cases e : x = j
  · rw [if_pos e, e, pk_us]
  · rw [if_neg e, pk_un (by omega)]; exact hD x hx
theorem sj_keep {m : Nat} (hm : m ≤ 20) {st ai ai' : Nat → Int32} (hr : ∀ r, r < m → sj_Ok (st r) ∧ sj_Row ai r (st r)) (e : ∀ i, i < 600 → ai' i = ai i) : ∀ r, r < m → sj_Ok (st r) ∧ sj_Row ai' r (st r) :=
  fun r h => ⟨(hr r h).1, sj_Row_k (hr r h).2 (fun x hx => e _ (by omega))⟩
theorem sj_on_row {d : Int32} {j : Nat} (hj : j < 30) : ∀ x, x < 30 → bt (d ||| ((1 : Int32) <<< (nI j &&& 31))) x = if x = j then true else bt d x := by
  intro x hx
  rw [sj_on d (by omega)]
  by_cases e : x = j
  · rw [if_pos e, decide_eq_true e, Bool.or_true]
  · rw [if_neg e, decide_eq_false e, Bool.or_false]
theorem sj_off_row {d : Int32} {j : Nat} (hj : j < 30) : ∀ x, x < 30 → bt (d &&& (((1 : Int32) <<< (nI j &&& 31)) ^^^ (-1))) x = if x = j then false else bt d x := by
  intro x hx
  rw [sj_off d (by omega)]
  by_cases e : x = j
  · rw [if_pos e, decide_eq_true e, Bool.not_true, Bool.and_false]
  · rw [if_neg e, decide_eq_false e, Bool.not_false, Bool.and_true]
theorem sj_on_n {d : Int32} {j : Nat} (hj : j < 30) : sj_n (d ||| ((1 : Int32) <<< (nI j &&& 31))) = if bt d j = true then sj_n d else sj_n d + 1 := by
  cases h : bt d j
  · rw [if_neg (by decide)]
    refine sj_c_set hj h ?_ (fun i hi => ?_)
    · rw [sj_on d (by omega), decide_eq_true rfl, Bool.or_true]
    · rw [sj_on d (by omega), decide_eq_false hi, Bool.or_false]
  · rw [if_pos rfl]
    refine sj_c_ext (fun i hi => ?_)
    rw [sj_on_row hj i hi]
    by_cases e : i = j
    · rw [if_pos e, e, h]
    · rw [if_neg e]
theorem sj_on_hi {d : Int32} {j : Nat} (hj : j < 30) (h : ∀ x, 30 ≤ x → bt d x = false) : ∀ x, 30 ≤ x → bt (d ||| ((1 : Int32) <<< (nI j &&& 31))) x = false := by
  intro x hx
  rw [sj_on d (by omega), h x hx, decide_eq_false (by omega)]; rfl
theorem sj_off_ok {d : Int32} {j : Nat} (hj : j < 30) (h : sj_Ok d) : sj_Ok (d &&& (((1 : Int32) <<< (nI j &&& 31)) ^^^ (-1))) := by
  refine ⟨fun x hx => ?_, Nat.le_trans (sj_c_mono (fun i hi e => ?_)) h.2⟩
  · rw [sj_off d (by omega), h.1 x hx, Bool.false_and]
  · rw [sj_off d (by omega)] at e
    exact (Bool.and_eq_true_iff.mp e).1
theorem sy_t37 {post : Int32 → SY → Prop} {c t w d : Int32} {ai lb : Nat → Int32} {j : Nat} (hj : j < 30) (hD : sj_Row ai 20 d) (hp : ∀ ai' : Nat → Int32, sj_Row ai' 20 (d ||| ((1 : Int32) <<< (nI j &&& 31))) → (∀ i, i < 600 → ai' i = ai i) → post (nI (sj_n (d ||| ((1 : Int32) <<< (nI j &&& 31))))) (c, t, w, ai', lb)) : wY_token_37 post (nI j) c t w ai lb :=
  sy_put (P := fun a' => wpY_sizeOf (fun r_17 => (post r_17 (c, t, w, a', lb))) (c, t, w, a', lb) 20) true hj hD (sj_on_row hj) (fun ai' h1 h2 => sy_size (r := 20) (by omega) h1 (hp ai' h1 h2))
theorem i_vc_token {k : Nat} {u : SX} {v : SY} (I : i_Rel k u v) (hk : k + 3 ≤ 1536) (v1 : Int32) : wpX_token (fun r u' => wpY_token (fun r' v' => r' = r ∧ i_Rel (k + 3) u' v') v v1) u v1 := by
  obtain ⟨m, d, t, w, st, ai, lb, hm, rfl, rfl, ⟨hd, hD⟩, hr⟩ := I
  unfold wpX_token
  dsimp only
  rcases sj_two v1 (n := 30) (by omega) with h | ⟨j, hj, rfl⟩
  · refine sx_tok_no h (br_t rfl ?_)
    unfold wpY_token
    dsimp only
    exact sy_tok_no h (br_f (by decide) ⟨rfl, sj_rel hm hd hD hr⟩)
  · refine sx_tok_ok hj (br_f (by decide) (nm_e (sx_count ?_)))
    have hn := sj_on_n (d := d) hj
    have hle := sj_n_le (d ||| ((1 : Int32) <<< (nI j &&& 31)))
    have hd2 := hd.2
    refine pk_le (sj_n (d ||| ((1 : Int32) <<< (nI j &&& 31)))) 12 (fun h => ?_) (fun h => ?_)
    · have T : wY_token_37 (fun r' v' => r' = nI (sj_n (d ||| ((1 : Int32) <<< (nI j &&& 31)))) ∧ i_Rel (k + 3) (nI m, d ||| ((1 : Int32) <<< (nI j &&& 31)), t, w, st) v') (nI j) (nI m) t w ai lb :=
        sy_t37 hj hD (fun ai' h1 h2 => ⟨rfl, sj_rel hm ⟨sj_on_hi hj hd.1, h⟩ h1 (sj_keep hm hr h2)⟩)
      unfold wpY_token
      dsimp only
      refine sy_tok_ok hj (br_t rfl (sy_size (r := 20) (by omega) hD ?_))
      refine pk_eq (sj_n d) 12 (fun h12 => sy_rd (r := 20) (by omega) hj hD (sj_i6 j) (fun hb => ?_) (fun _ => T)) (fun _ => T)
      rw [hb, if_neg (by decide)] at hn
      omega
    · unfold wpY_token
      dsimp only
      refine sy_tok_ok hj (br_t rfl (sy_size (r := 20) (by omega) hD ?_))
      have hb : bt d j = false := by
        cases hb : bt d j
        · rfl
        · rw [hb, if_pos rfl] at hn; omega
      rw [hb, if_neg (by decide)] at hn
      exact pk_eq (sj_n d) 12 (fun h12 => sy_rd (r := 20) (by omega) hj hD (sj_i6 j) (fun _ => ⟨rfl, sj_rel hm hd hD hr⟩) (fun z => absurd (hb.symm.trans z) (by decide))) (fun z => absurd (show sj_n d = 12 by omega) z)
theorem i_vc_drop {k : Nat} {u : SX} {v : SY} (I : i_Rel k u v) (hk : k + 3 ≤ 1536) (v1 : Int32) : wpX_drop (fun r u' => wpY_drop (fun r' v' => r' = r ∧ i_Rel (k + 3) u' v') v v1) u v1 := by
  obtain ⟨m, d, t, w, st, ai, lb, hm, rfl, rfl, ⟨hd, hD⟩, hr⟩ := I
  unfold wpX_drop
  dsimp only
  rcases sj_two v1 (n := 30) (by omega) with h | ⟨j, hj, rfl⟩
  · refine sx_tok_no h (br_t rfl ?_)
    unfold wpY_drop
    dsimp only
    exact sy_tok_no h (br_f (by decide) ⟨rfl, sj_rel hm hd hD hr⟩)
  · refine sx_tok_ok hj (br_f (by decide) (nm_e (sx_count ?_)))
    unfold wpY_drop
    dsimp only
    refine sy_tok_ok hj (br_t rfl ?_)
    exact sy_put (P := fun a' => wpY_sizeOf (fun r_17 => (r_17 = nI (sj_n (d &&& (((1 : Int32) <<< (nI j &&& 31)) ^^^ (-1)))) ∧ i_Rel (k + 3) (nI m, d &&& (((1 : Int32) <<< (nI j &&& 31)) ^^^ (-1)), t, w, st) (nI m, t, w, a', lb))) (nI m, t, w, a', lb) 20) false hj hD (sj_off_row hj) (fun ai' h1 h2 => sy_size (r := 20) (by omega) h1 ⟨rfl, sj_rel hm (sj_off_ok hj hd) h1 (sj_keep hm hr h2)⟩)
theorem sy_clear_l {post : Int32 → SY → Prop} {c t w x1 : Int32} {ai lb : Nat → Int32} (hp : ∀ ai' : Nat → Int32, sj_Row ai' 20 0 → (∀ i, i < 600 → ai' i = ai i) → post x1 (c, t, w, ai', lb)) : ∀ (e i : Nat) (ai' : Nat → Int32), i + e = 30 → (∀ x, x < i → ai' (30 * 20 + x) = sj_b false) → (∀ i, i < 600 → ai' i = ai i) → wY_clear_9 post x1 c t w (e + 1) (nI i) ai' lb := by
  intro e
  induction e with
  | zero =>
    intro i ai' hi h1 h2
    obtain rfl : i = 30 := by omega
    exact pk_le 30 30 (fun _ => hp ai' (fun x hx => by rw [b_0]; exact h1 x hx) h2) (fun h => absurd h (by omega))
  | succ e ih =>
    intro i ai' hi h1 h2
    refine pk_le 30 i (fun h => absurd h (by omega)) (fun _ => ?_)
    rw [sj_i6 i]
    refine ⟨vp_in_nI (by omega) (by omega), ?_⟩
    rw [nI_clamp (n := 30 * 20 + i) (by omega)]
    refine nm_e (nm_r (nI_1 i) (ih (i + 1) _ (by omega) (fun x hx => ?_) (fun j hj => ?_)))
    · by_cases e : x = i
      · rw [e, pk_us]; exact sj_nar false
      · rw [pk_un (by omega)]; exact h1 x (by omega)
    · rw [pk_un (by omega)]; exact h2 j hj
theorem i_vc_clear {k : Nat} {u : SX} {v : SY} (I : i_Rel k u v) (hk : k + 3 ≤ 1536) : wpX_clear (fun r u' => wpY_clear (fun r' v' => r' = r ∧ i_Rel (k + 3) u' v') v) u := by
  obtain ⟨m, d, t, w, st, ai, lb, hm, rfl, rfl, ⟨hd, hD⟩, hr⟩ := I
  unfold wpX_clear
  dsimp only
  refine sx_count ?_
  unfold wpY_clear
  dsimp only
  refine sy_size (r := 20) (by omega) hD ⟨31, ?_⟩
  exact sy_clear_l (ai := ai) (fun ai' h1 h2 => ⟨rfl, sj_rel hm sj_ok0 h1 (sj_keep hm hr h2)⟩) 30 0 ai rfl (fun x hx => absurd hx (by omega)) (fun _ _ => rfl)
theorem i_vc_recall {k : Nat} {u : SX} {v : SY} (I : i_Rel k u v) (hk : k + 3 ≤ 1536) (v1 : Int32) : wpX_recall (fun r u' => wpY_recall (fun r' v' => r' = r ∧ i_Rel (k + 3) u' v') v v1) u v1 := by
  obtain ⟨m, d, t, w, st, ai, lb, hm, rfl, rfl, ⟨hd, hD⟩, hr⟩ := I
  unfold wpX_recall
  dsimp only
  rcases sj_two v1 (n := m) (by omega) with h | ⟨j, hj, rfl⟩
  · refine sx_rec_no h (br_t rfl ?_)
    unfold wpY_recall
    dsimp only
    exact sy_bad_no h (br_f (by decide) ⟨rfl, sj_rel hm hd hD hr⟩)
  · refine sx_rec_ok hm hj (br_f (by decide) ⟨vp_in_nI (by omega) (by omega), ?_⟩)
    rw [nI_clamp (n := j) (by omega)]
    refine nm_e (sx_count ?_)
    unfold wpY_recall
    dsimp only
    refine sy_bad_ok hm hj (br_t rfl ?_)
    refine sy_copy (r := j) (q := 20) (by omega) (by omega) (by omega) (hr j hj).2 (fun ai' h1 h2 => ?_)
    exact sy_size (r := 20) (by omega) h1 ⟨rfl, sj_rel hm (hr j hj).1 h1 (sj_keep hm hr (fun i hi => h2 i (by omega)))⟩
theorem sj_n0 {d : Int32} (h : sj_Ok d) (h0 : sj_n d = 0) : d = 0 := by
  refine b_ext (fun i _ => ?_)
  rw [b_0]
  by_cases e : i < 30
  · exact sj_c_none h0 i e
  · exact h.1 i (by omega)
theorem sj_n00 : sj_n 0 = 0 := by decide +kernel
theorem i_vc_store {k : Nat} {u : SX} {v : SY} (I : i_Rel k u v) (hk : k + 3 ≤ 1536) : wpX_store (fun r u' => wpY_store (fun r' v' => r' = r ∧ i_Rel (k + 3) u' v') v) u := by
  obtain ⟨m, d, t, w, st, ai, lb, hm, rfl, rfl, ⟨hd, hD⟩, hr⟩ := I
  have hle := sj_n_le d
  unfold wpX_store
  dsimp only
  by_cases h0 : d = 0
  · refine br_t h0 ?_
    unfold wpY_store
    dsimp only
    refine sy_size (r := 20) (by omega) hD ?_
    exact pk_eq (sj_n d) 0 (fun _ => ⟨rfl, sj_rel hm hd hD hr⟩) (fun z => absurd (by rw [h0]; exact sj_n00) z)
  · refine br_f h0 ?_
    have hn : sj_n d ≠ 0 := fun z => h0 (sj_n0 hd z)
    refine pk_lt m 20 (fun h => ⟨vp_in_nI (by omega) (by omega), ?_⟩) (fun h => ?_)
    · rw [nI_clamp (n := m) (by omega)]
      refine nm_e (nm_r (nI_1 m) ?_)
      unfold wpY_store
      dsimp only
      refine sy_size (r := 20) (by omega) hD ?_
      refine pk_eq (sj_n d) 0 (fun z => absurd z hn) (fun _ => pk_lt m 20 (fun _ => ?_) (fun z => absurd z (by omega)))
      refine sy_copy (r := 20) (q := m) (by omega) (by omega) (by omega) hD (fun ai' h1 h2 => ?_)
      refine nm_r (nI_1 m) ⟨rfl, sj_rel (by omega) hd (sj_Row_k hD (fun x hx => h2 _ (by omega))) (fun r hr2 => ?_)⟩
      by_cases e : r = m
      · subst e
        rw [pk_us]
        exact ⟨hd, h1⟩
      · rw [pk_un e]
        exact ⟨(hr r (by omega)).1, sj_Row_k (hr r (by omega)).2 (fun x hx => h2 _ (by omega))⟩
    · unfold wpY_store
      dsimp only
      refine sy_size (r := 20) (by omega) hD ?_
      exact pk_eq (sj_n d) 0 (fun z => absurd z hn) (fun _ => pk_lt m 20 (fun z => absurd z (by omega)) (fun _ => ⟨rfl, sj_rel hm hd hD hr⟩))
/-- the records behind q, up to row i, moved one down -/
def sj_mv (st : Nat → Int32) (q i r : Nat) : Int32 := if q ≤ r ∧ r < i then st (r + 1) else st r
theorem sx_rem_l {post : Int32 → SX → Prop} {m q : Nat} (hm : m ≤ 20) (hq : q < m) {d t w : Int32} {st : Nat → Int32} (hp : ∀ st' : Nat → Int32, (∀ r, r < m → st' r = sj_mv st q (m - 1) r) → post (nI (m - 1)) (nI (m - 1), d, t, w, st')) : ∀ (e i : Nat) (st' : Nat → Int32), i + e = m → q < i → (∀ r, r < m → st' r = sj_mv st q (i - 1) r) → wX_remove_14 post (nI m) d t w (e + 1) (nI i) st' := by
  intro e
  induction e with
  | zero =>
    intro i st' hi hqi h1
    obtain rfl : i = m := by omega
    exact pk_le i i (fun _ => nm_r (show nI i - 1 = nI (i - 1) from pk_sub (a := i) (b := 1) (by omega)) (hp st' h1)) (fun h => absurd h (by omega))
  | succ e ih =>
    intro i st' hi hqi h1
    refine pk_le m i (fun h => absurd h (by omega)) (fun _ => ⟨vp_in_nI (by omega) (by omega), ?_⟩)
    rw [show nI i - 1 = nI (i - 1) from pk_sub (a := i) (b := 1) (by omega)]
    refine ⟨vp_in_nI (by omega) (by omega), ?_⟩
    rw [nI_clamp (n := i) (by omega), nI_clamp (n := i - 1) (by omega)]
    refine nm_e (nm_r (nI_1 i) (ih (i + 1) _ (by omega) (by omega) (fun r hr => ?_)))
    by_cases e : r = i - 1
    · rw [e, pk_us, h1 i (by omega)]
      unfold sj_mv
      rw [if_neg (by omega), if_pos (by omega), show i - 1 + 1 = i by omega]
    · rw [pk_un e, h1 r hr]
      unfold sj_mv
      by_cases c : q ≤ r ∧ r < i - 1
      · rw [if_pos c, if_pos (by omega)]
      · rw [if_neg c, if_neg (by omega)]
theorem sy_rem_l {post : Int32 → SY → Prop} {m q : Nat} (hm : m ≤ 20) (hq : q < m) {t w d : Int32} {st lb : Nat → Int32} (hp : ∀ ai' : Nat → Int32, sj_Row ai' 20 d → (∀ r, r < m → sj_Row ai' r (sj_mv st q (m - 1) r)) → post (nI (m - 1)) (nI (m - 1), t, w, ai', lb)) : ∀ (e i : Nat) (ai' : Nat → Int32), i + e = m - 1 → q ≤ i → sj_Row ai' 20 d → (∀ r, r < m → sj_Row ai' r (sj_mv st q i r)) → wY_remove_12 post (e + 1) (nI i) (nI m) t w ai' lb := by
  have em : nI m - 1 = nI (m - 1) := pk_sub (a := m) (b := 1) (by omega)
  intro e
  induction e with
  | zero =>
    intro i ai' hi hqi hD h1
    obtain rfl : i = m - 1 := by omega
    exact pk_le (m - 1) (m - 1) (fun _ => nm_r em (hp ai' hD h1)) (fun h => absurd h (by omega)) em
  | succ e ih =>
    intro i ai' hi hqi hD h1
    refine pk_le (m - 1) i (fun h => absurd h (by omega)) (fun _ => pk_le 19 i (fun h => absurd h (by omega)) (fun _ => ?_)) em
    rw [nI_1 i]
    refine sy_copy (r := i + 1) (q := i) (by omega) (by omega) (by omega) (h1 (i + 1) (by omega)) (fun a2 h2 h3 => ?_)
    refine nm_e (ih (i + 1) _ (by omega) (by omega) (sj_Row_k hD (fun x hx => h3 _ (by omega))) (fun r hr => ?_))
    by_cases e : r = i
    · subst e
      have e2 : sj_mv st q (r + 1) r = sj_mv st q r (r + 1) := by
        unfold sj_mv
        rw [if_pos (by omega), if_neg (by omega)]
      rw [e2]; exact h2
    · have e2 : sj_mv st q (i + 1) r = sj_mv st q i r := by
        unfold sj_mv
        by_cases c : q ≤ r ∧ r < i
        · rw [if_pos c, if_pos (by omega)]
        · rw [if_neg c, if_neg (by omega)]
      rw [e2]
      exact sj_Row_k (h1 r hr) (fun x hx => h3 _ (by omega))
theorem i_vc_remove {k : Nat} {u : SX} {v : SY} (I : i_Rel k u v) (hk : k + 3 ≤ 1536) (v1 : Int32) : wpX_remove (fun r u' => wpY_remove (fun r' v' => r' = r ∧ i_Rel (k + 3) u' v') v v1) u v1 := by
  obtain ⟨m, d, t, w, st, ai, lb, hm, rfl, rfl, ⟨hd, hD⟩, hr⟩ := I
  unfold wpX_remove
  dsimp only
  rcases sj_two v1 (n := m) (by omega) with h | ⟨j, hj, rfl⟩
  · refine sx_rec_no h (br_t rfl ?_)
    unfold wpY_remove
    dsimp only
    exact sy_bad_no h (br_f (by decide) ⟨rfl, sj_rel hm hd hD hr⟩)
  · refine sx_rec_ok hm hj (br_f (by decide) (nm_r (nI_1 j) ⟨m - (j + 1) + 1, ?_⟩))
    have mv0 : ∀ r, sj_mv st j j r = st r := fun r => by unfold sj_mv; rw [if_neg (by omega)]
    refine sx_rem_l (q := j) (st := st) hm hj (fun st' h1 => ?_) (m - (j + 1)) (j + 1) st (by omega) (by omega) (fun r _ => (mv0 r).symm)
    unfold wpY_remove
    dsimp only
    refine sy_bad_ok hm hj (br_t rfl ⟨m - 1 - j + 1, ?_⟩)
    refine sy_rem_l (q := j) (st := st) (d := d) hm hj (fun ai' h2 h3 => ⟨rfl, sj_rel (by omega) hd h2 (fun r hr2 => ?_)⟩) (m - 1 - j) j ai (by omega) (by omega) hD (fun r hr2 => by rw [mv0 r]; exact (hr r hr2).2)
    rw [h1 r (by omega)]
    refine ⟨?_, h3 r (by omega)⟩
    unfold sj_mv
    by_cases c : j ≤ r ∧ r < m - 1
    · rw [if_pos c]; exact (hr (r + 1) (by omega)).1
    · rw [if_neg c]; exact (hr r (by omega)).1
theorem i_vc_threshold {k : Nat} {u : SX} {v : SY} (I : i_Rel k u v) (hk : k + 3 ≤ 1536) (v1 : Int32) (v2 : Int32) : wpX_threshold (fun r u' => wpY_threshold (fun r' v' => r' = r ∧ i_Rel (k + 3) u' v') v v1 v2) u v1 v2 := by
  obtain ⟨m, d, t, w, st, ai, lb, hm, rfl, rfl, ⟨hd, hD⟩, hr⟩ := I
  unfold wpX_threshold wpX_isThresholdPart
  dsimp only
  have R : ∀ a b : Int32, i_Rel (k + 3) (nI m, d, a, b, st) (nI m, a, b, ai, lb) := fun a b => sj_rel hm hd hD hr
  by_cases a1 : v1 < 1
  · exact br_t a1 (br_t rfl (br_t a1 ⟨rfl, R t w⟩))
  refine br_f a1 ?_
  by_cases a2 : 12 < v1
  · exact br_t a2 (br_t rfl (br_f a1 (br_t a2 ⟨rfl, R t w⟩)))
  refine br_f a2 (br_f (by decide) ?_)
  by_cases a3 : v2 < 1
  · exact br_t a3 (br_t rfl (br_f a1 (br_f a2 (br_t a3 ⟨rfl, R t w⟩))))
  refine br_f a3 ?_
  by_cases a4 : 12 < v2
  · exact br_t a4 (br_t rfl (br_f a1 (br_f a2 (br_f a3 (br_f (Int32.not_le.mpr a4) ⟨rfl, R t w⟩)))))
  refine br_f a4 (br_f (by decide) ?_)
  by_cases a5 : v1 ≤ v2
  · exact br_t a5 (br_f a1 (br_f a2 (br_f a3 (br_t (Int32.not_lt.mp a4) (br_t a5 ⟨rfl, R v1 v2⟩)))))
  · exact br_f a5 (br_f a1 (br_f a2 (br_f a3 (br_t (Int32.not_lt.mp a4) (br_f a5 ⟨rfl, R t w⟩)))))
