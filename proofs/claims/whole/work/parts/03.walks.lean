/-! the private methods, each with a general post -/
theorem sx_tok_no {post : Int32 → Prop} {p : Int32} (h : p < 0 ∨ nI 30 ≤ p) (hp : post 0) : wpX_isToken post p := by
  by_cases h0 : p < 0
  · exact br_t h0 hp
  · exact br_f h0 (br_t (h.resolve_left h0) hp)
theorem sx_tok_ok {post : Int32 → Prop} {j : Nat} (hj : j < 30) (hp : post 1) : wpX_isToken post (nI j) :=
  br_f (nI_pos (by omega)) (pk_le 30 j (fun h => absurd h (by omega)) (fun _ => hp))
theorem sx_rec_no {post : Int32 → Prop} {m : Nat} {d t w : Int32} {st : Nat → Int32} {p : Int32} (h : p < 0 ∨ nI m ≤ p) (hp : post 0) : wpX_isRecord post (nI m, d, t, w, st) p := by
  by_cases h0 : p < 0
  · exact br_t h0 hp
  · exact br_f h0 (br_t (h.resolve_left h0) hp)
theorem sx_rec_ok {post : Int32 → Prop} {m : Nat} {d t w : Int32} {st : Nat → Int32} {j : Nat} (hm : m ≤ 20) (hj : j < m) (hp : post 1) : wpX_isRecord post (nI m, d, t, w, st) (nI j) :=
  br_f (nI_pos (by omega)) (pk_le m j (fun h => absurd h (by omega)) (fun _ => hp))
theorem sy_bad_no {post : Int32 → Prop} {m : Nat} {t w : Int32} {ai lb : Nat → Int32} {p : Int32} (h : p < 0 ∨ nI m ≤ p) (hp : post 1) : wpY_bad post (nI m, t, w, ai, lb) p := by
  by_cases h0 : p < 0
  · exact br_t h0 hp
  · exact br_f h0 (br_t (h.resolve_left h0) hp)
theorem sy_bad_ok {post : Int32 → Prop} {m : Nat} {t w : Int32} {ai lb : Nat → Int32} {j : Nat} (hm : m ≤ 20) (hj : j < m) (hp : post 0) : wpY_bad post (nI m, t, w, ai, lb) (nI j) :=
  br_f (nI_pos (by omega)) (pk_le m j (fun h => absurd h (by omega)) (fun _ => pk_lt j 20 (fun _ => hp) (fun h => absurd h (by omega))))
theorem sy_tok_no {post : Int32 → Prop} {u : SY} {p : Int32} (h : p < 0 ∨ nI 30 ≤ p) (hp : post 1) : wpY_badToken post u p := by
  obtain ⟨c, t, w, ai, lb⟩ := u
  by_cases h0 : p < 0
  · exact br_t h0 hp
  · have h1 : nI 30 ≤ p := h.resolve_left h0
    have h2 : ¬ p ≤ 29 := fun z => absurd (Int32.le_trans h1 z) (by decide)
    exact br_f h0 (br_f h2 hp)
theorem sy_tok_ok {post : Int32 → Prop} {u : SY} {j : Nat} (hj : j < 30) (hp : post 0) : wpY_badToken post u (nI j) := by
  obtain ⟨c, t, w, ai, lb⟩ := u
  exact br_f (nI_pos (by omega)) (pk_le j 29 (fun _ => hp) (fun h => absurd h (by omega)))
theorem sx_in {post : Int32 → Prop} {s : Int32} {i : Nat} (hi : i < 32) (hp : post (sj_b (bt s i))) : wpX_isIn post s (nI i) := by
  unfold wpX_isIn
  rw [sj_bit s hi]
  cases h : bt s i
  · rw [h] at hp; exact br_f (by decide) hp
  · rw [h] at hp; exact br_t (by decide) hp
theorem sx_count_l {post : Int32 → Prop} (s : Int32) (hp : post (nI (sj_n s))) : ∀ d i : Nat, i + d = 30 → wX_countOf_4 post s (d + 1) (nI (sj_c (bt s) i)) (nI i) := by
  intro d
  induction d with
  | zero =>
    intro i hi
    obtain rfl : i = 30 := by omega
    exact pk_le 30 30 (fun _ => hp) (fun h => absurd h (by omega))
  | succ d ih =>
    intro i hi
    refine pk_le 30 i (fun h => absurd h (by omega)) (fun _ => ?_)
    refine nm_r (e' := nI (sj_c (bt s) (i + 1))) ?_ (nm_r (nI_1 i) (ih (i + 1) (by omega)))
    rw [sj_bit s (by omega)]
    exact nI_add _ _
theorem sx_count {post : Int32 → Prop} {s : Int32} (hp : post (nI (sj_n s))) : wpX_countOf post s := ⟨31, sx_count_l s hp 30 0 rfl⟩
theorem sx_sim {post : Int32 → Prop} {c d t w a b : Int32} {st : Nat → Int32} (hp : post (sj_b (sj_sim t w a b))) : wpX_areSimilar post (c, d, t, w, st) a b := by
  unfold wpX_areSimilar
  dsimp only
  exact sx_count (sx_count (sj_lt hp))
/-- the least member below 20 -/
theorem sx_least_l {post : Int32 → Prop} (s : Int32) (h0 : (∀ j, j < 20 → bt s j = false) → post (-1)) (h1 : ∀ r, r < 20 → bt s r = true → (∀ j, j < r → bt s j = false) → post (nI r)) : ∀ d i : Nat, i + d = 20 → (∀ j, j < i → bt s j = false) → wX_leastOf_2 post s (d + 1) (nI i) := by
  intro d
  induction d with
  | zero =>
    intro i hi hn
    obtain rfl : i = 20 := by omega
    exact pk_le 20 20 (fun _ => h0 hn) (fun h => absurd h (by omega))
  | succ d ih =>
    intro i hi hn
    refine pk_le 20 i (fun h => absurd h (by omega)) (fun _ => sx_in (by omega) (sj_br (fun hb => ?_) (fun hb => ?_)))
    · refine nm_r (nI_1 i) (ih (i + 1) (by omega) (fun j hj => ?_))
      by_cases e : j = i
      · rw [e]; exact hb
      · exact hn j (by omega)
    · exact h1 i (by omega) hb hn
theorem sx_least {post : Int32 → Prop} {s : Int32} (h0 : (∀ j, j < 20 → bt s j = false) → post (-1)) (h1 : ∀ r, r < 20 → bt s r = true → (∀ j, j < r → bt s j = false) → post (nI r)) : wpX_leastOf post s :=
  ⟨21, sx_least_l s h0 h1 20 0 rfl (fun j hj => absurd hj (by omega))⟩
/-- the set of the records similar to a set -/
def sj_M (m : Nat) (f : Nat → Bool) (R : Int32) : Prop := ∀ j, bt R j = (decide (j < m) && f j)
theorem sx_sims_l {post : Int32 → Prop} {m : Nat} (hm : m ≤ 20) {d t w s : Int32} {st : Nat → Int32} (hp : ∀ R, sj_M m (fun j => sj_sim t w s (st j)) R → post R) : ∀ e i R, i + e = m → sj_M i (fun j => sj_sim t w s (st j)) R → wX_recordsSimilarTo_4 post s (nI m) d t w st (e + 1) R (nI i) := by
  intro e
  induction e with
  | zero =>
    intro i R hi hR
    obtain rfl : i = m := by omega
    exact pk_le i i (fun _ => hp R hR) (fun h => absurd h (by omega))
  | succ e ih =>
    intro i R hi hR
    refine pk_le m i (fun h => absurd h (by omega)) (fun _ => ⟨vp_in_nI (by omega) (by omega), ?_⟩)
    rw [nI_clamp (n := i) (by omega)]
    refine sx_sim (sj_br (fun hb => ?_) (fun hb => ?_))
    · refine nm_r (nI_1 i) (ih (i + 1) R (by omega) (fun j => ?_))
      rw [hR j]
      by_cases e1 : j = i
      · subst e1
        dsimp only
        rw [hb, Bool.and_false, Bool.and_false]
      · rw [show decide (j < i) = decide (j < i + 1) from decide_eq_decide.mpr (by omega)]
    · refine nm_e (nm_r (nI_1 i) (ih (i + 1) _ (by omega) (fun j => ?_)))
      rw [sj_on R (by omega), hR j]
      by_cases e1 : j = i
      · subst e1
        dsimp only
        rw [hb, decide_eq_true (p := j = j) rfl, decide_eq_true (p := j < j + 1) (by omega), Bool.or_true]; rfl
      · rw [decide_eq_false e1, Bool.or_false, show decide (j < i) = decide (j < i + 1) from decide_eq_decide.mpr (by omega)]
theorem sx_sims {post : Int32 → Prop} {m : Nat} (hm : m ≤ 20) {d t w s : Int32} {st : Nat → Int32} (hp : ∀ R, sj_M m (fun j => sj_sim t w s (st j)) R → post R) : wpX_recordsSimilarTo post (nI m, d, t, w, st) s :=
  ⟨m + 1, sx_sims_l hm hp m 0 0 (by omega) (fun j => by rw [b_0, decide_eq_false (by omega), Bool.false_and])⟩
/-- the others that are similar to record q -/
theorem sx_oth {post : Int32 → Prop} {m q : Nat} (hm : m ≤ 20) (hq : q < m) {d t w : Int32} {st : Nat → Int32} (hp : ∀ R, sj_M m (fun j => sj_sim t w (st q) (st j) && !decide (j = q)) R → post R) : wpX_othersSimilarTo post (nI m, d, t, w, st) (nI q) := by
  unfold wpX_othersSimilarTo
  dsimp only
  refine ⟨vp_in_nI (by omega) (by omega), ?_⟩
  rw [nI_clamp (n := q) (by omega)]
  refine sx_sims hm (fun R hR => hp _ (fun j => ?_))
  rw [sj_off R (by omega), hR j, Bool.and_assoc]
theorem sj_M_n {m : Nat} (hm : m ≤ 20) {f : Nat → Bool} {R : Int32} (h : sj_M m f R) : sj_n R = sj_c f m := by
  unfold sj_n
  rw [sj_c_tail (n := m) (by omega) (fun i hi => by rw [h i, decide_eq_false (by omega), Bool.false_and])]
  exact sj_c_ext (fun i hi => by rw [h i, decide_eq_true hi, Bool.true_and])
theorem sj_M_b {m : Nat} {f : Nat → Bool} {R : Int32} (h : sj_M m f R) {j : Nat} (hj : j < m) : bt R j = f j := by
  rw [h j, decide_eq_true hj, Bool.true_and]
/-! the reference's table -/
def sj_Row (ai : Nat → Int32) (r : Nat) (s : Int32) : Prop := ∀ x, x < 30 → ai (30 * r + x) = sj_b (bt s x)
theorem sj_ix (r x : Nat) : (30 : Int32) * nI r + nI x = nI (30 * r + x) := by
  show nI 30 * nI r + nI x = _
  rw [pk_mul, nI_add]
theorem sj_i6 (x : Nat) : (600 : Int32) + nI x = nI (30 * 20 + x) := nI_add 600 x
theorem sy_rd {A B : Prop} {ai : Nat → Int32} {r x : Nat} {s e : Int32} (hr : r ≤ 20) (hx : x < 30) (h : sj_Row ai r s) (he : e = nI (30 * r + x)) (f : bt s x = false → A) (g : bt s x = true → B) : vp_in e 630 ∧ ((ai e.toNatClampNeg = 0 → A) ∧ (¬ ai e.toNatClampNeg = 0 → B)) := by
  subst he
  rw [nI_clamp (by omega), h x hx]
  exact ⟨vp_in_nI (by omega) (by omega), sj_br f g⟩
theorem sy_size_l {post : Int32 → Prop} {c t w : Int32} {ai lb : Nat → Int32} {r : Nat} {s : Int32} (hr : r ≤ 20) (h : sj_Row ai r s) (hp : post (nI (sj_n s))) : ∀ d i : Nat, i + d = 30 → wY_sizeOf_4 post (nI r) c t w ai lb (d + 1) (nI (sj_c (bt s) i)) (nI i) := by
  intro d
  induction d with
  | zero =>
    intro i hi
    obtain rfl : i = 30 := by omega
    exact pk_le 30 30 (fun _ => hp) (fun h => absurd h (by omega))
  | succ d ih =>
    intro i hi
    refine pk_le 30 i (fun h => absurd h (by omega)) (fun _ => sy_rd hr (by omega) h (sj_ix r i) (fun hb => ?_) (fun hb => ?_))
    · refine nm_r (nI_1 i) ?_
      rw [← sj_c_f hb]
      exact ih (i + 1) (by omega)
    · refine nm_r (e' := nI (sj_c (bt s) (i + 1))) ?_ (nm_r (nI_1 i) (ih (i + 1) (by omega)))
      rw [sj_c_t hb]
      exact nI_1 _
theorem sy_size {post : Int32 → Prop} {c t w : Int32} {ai lb : Nat → Int32} {r : Nat} {s : Int32} (hr : r ≤ 20) (h : sj_Row ai r s) (hp : post (nI (sj_n s))) : wpY_sizeOf post (c, t, w, ai, lb) (nI r) :=
  ⟨31, sy_size_l hr h hp 30 0 rfl⟩
theorem sy_both_l {post : Int32 → Prop} {c t w : Int32} {ai lb : Nat → Int32} {r q : Nat} {a b : Int32} (hr : r ≤ 20) (hq : q ≤ 20) (h : sj_Row ai r a) (g : sj_Row ai q b) (hp : post (nI (sj_n (a &&& b)))) : ∀ d i : Nat, i + d = 30 → wY_both_5 post (nI r) (nI q) c t w ai lb (d + 1) (nI (sj_c (bt (a &&& b)) i)) (nI i) := by
  intro d
  induction d with
  | zero =>
    intro i hi
    obtain rfl : i = 30 := by omega
    exact pk_le 30 30 (fun _ => hp) (fun h => absurd h (by omega))
  | succ d ih =>
    intro i hi
    refine pk_le 30 i (fun h => absurd h (by omega)) (fun _ => sy_rd hr (by omega) h (sj_ix r i) (fun ha => ?_) (fun ha => sy_rd hq (by omega) g (sj_ix q i) (fun hb => ?_) (fun hb => ?_)))
    · refine nm_r (nI_1 i) ?_
      rw [← sj_c_f (f := bt (a &&& b)) (n := i) (by rw [b_and, ha, Bool.false_and])]
      exact ih (i + 1) (by omega)
    · refine nm_r (nI_1 i) ?_
      rw [← sj_c_f (f := bt (a &&& b)) (n := i) (by rw [b_and, hb, Bool.and_false])]
      exact ih (i + 1) (by omega)
    · refine nm_r (e' := nI (sj_c (bt (a &&& b)) (i + 1))) ?_ (nm_r (nI_1 i) (ih (i + 1) (by omega)))
      rw [sj_c_t (f := bt (a &&& b)) (n := i) (by rw [b_and, ha, hb]; rfl)]
      exact nI_1 _
theorem sy_both {post : Int32 → Prop} {c t w : Int32} {ai lb : Nat → Int32} {r q : Nat} {a b : Int32} (hr : r ≤ 20) (hq : q ≤ 20) (h : sj_Row ai r a) (g : sj_Row ai q b) (hp : post (nI (sj_n (a &&& b)))) : wpY_both post (c, t, w, ai, lb) (nI r) (nI q) :=
  ⟨31, sy_both_l hr hq h g hp 30 0 rfl⟩
theorem sy_either_l {post : Int32 → Prop} {c t w : Int32} {ai lb : Nat → Int32} {r q : Nat} {a b : Int32} (hr : r ≤ 20) (hq : q ≤ 20) (h : sj_Row ai r a) (g : sj_Row ai q b) (hp : post (nI (sj_n (a ||| b)))) : ∀ d i : Nat, i + d = 30 → wY_either_5 post (nI r) (nI q) c t w ai lb (d + 1) (nI (sj_c (bt (a ||| b)) i)) (nI i) := by
  intro d
  induction d with
  | zero =>
    intro i hi
    obtain rfl : i = 30 := by omega
    exact pk_le 30 30 (fun _ => hp) (fun h => absurd h (by omega))
  | succ d ih =>
    intro i hi
    refine pk_le 30 i (fun h => absurd h (by omega)) (fun _ => sy_rd hr (by omega) h (sj_ix r i) (fun ha => sy_rd hq (by omega) g (sj_ix q i) (fun hb => ?_) (fun hb => ?_)) (fun ha => ?_))
    · refine nm_r (nI_1 i) ?_
      rw [← sj_c_f (f := bt (a ||| b)) (n := i) (by rw [b_or, ha, hb]; rfl)]
      exact ih (i + 1) (by omega)
    · refine nm_r (e' := nI (sj_c (bt (a ||| b)) (i + 1))) ?_ (nm_r (nI_1 i) (ih (i + 1) (by omega)))
      rw [sj_c_t (f := bt (a ||| b)) (n := i) (by rw [b_or, hb, Bool.or_true])]
      exact nI_1 _
    · refine nm_r (e' := nI (sj_c (bt (a ||| b)) (i + 1))) ?_ (nm_r (nI_1 i) (ih (i + 1) (by omega)))
      rw [sj_c_t (f := bt (a ||| b)) (n := i) (by rw [b_or, ha, Bool.true_or])]
      exact nI_1 _
theorem sy_either {post : Int32 → Prop} {c t w : Int32} {ai lb : Nat → Int32} {r q : Nat} {a b : Int32} (hr : r ≤ 20) (hq : q ≤ 20) (h : sj_Row ai r a) (g : sj_Row ai q b) (hp : post (nI (sj_n (a ||| b)))) : wpY_either post (c, t, w, ai, lb) (nI r) (nI q) :=
  ⟨31, sy_either_l hr hq h g hp 30 0 rfl⟩
theorem sy_alike {post : Int32 → Prop} {c t w : Int32} {ai lb : Nat → Int32} {r q : Nat} {a b : Int32} (hr : r ≤ 20) (hq : q ≤ 20) (h : sj_Row ai r a) (g : sj_Row ai q b) (hp : post (sj_b (sj_sim t w a b))) : wpY_alike post (c, t, w, ai, lb) (nI r) (nI q) := by
  unfold wpY_alike
  dsimp only
  exact sy_both hr hq h g (sy_either hr hq h g (sj_lt hp))
/-- copy row r to row q -/
theorem sy_copy_l {post : SY → Prop} {c t w : Int32} {ai lb : Nat → Int32} {r q : Nat} {s : Int32} (hr : r ≤ 20) (hq : q ≤ 20) (hn : r ≠ q) (h : sj_Row ai r s) (hp : ∀ ai' : Nat → Int32, sj_Row ai' q s → (∀ j, (j < 30 * q ∨ 30 * q + 30 ≤ j) → ai' j = ai j) → post (c, t, w, ai', lb)) : ∀ (d i : Nat) (ai' : Nat → Int32), i + d = 30 → (∀ x, x < i → ai' (30 * q + x) = sj_b (bt s x)) → (∀ j, (j < 30 * q ∨ 30 * q + 30 ≤ j) → ai' j = ai j) → wY_copy_2 post (nI r) (nI q) c t w (d + 1) (nI i) ai' lb := by
  intro d
  induction d with
  | zero =>
    intro i ai' hi h1 h2
    obtain rfl : i = 30 := by omega
    exact pk_le 30 30 (fun _ => hp ai' h1 h2) (fun h => absurd h (by omega))
  | succ d ih =>
    intro i ai' hi h1 h2
    refine pk_le 30 i (fun h => absurd h (by omega)) (fun _ => ?_)
    rw [sj_ix r i, sj_ix q i]
    refine ⟨vp_in_nI (by omega) (by omega), vp_in_nI (by omega) (by omega), ?_⟩
    rw [nI_clamp (n := 30 * r + i) (by omega), nI_clamp (n := 30 * q + i) (by omega), h2 (30 * r + i) (by omega), h i (by omega), sj_nar]
    refine nm_e (nm_r (nI_1 i) (ih (i + 1) _ (by omega) (fun x hx => ?_) (fun j hj => ?_)))
    · by_cases e : x = i
      · rw [e, pk_us]
      · rw [pk_un (by omega)]; exact h1 x (by omega)
    · rw [pk_un (by omega)]; exact h2 j hj
theorem sy_copy {post : SY → Prop} {c t w : Int32} {ai lb : Nat → Int32} {r q : Nat} {s : Int32} (hr : r ≤ 20) (hq : q ≤ 20) (hn : r ≠ q) (h : sj_Row ai r s) (hp : ∀ ai' : Nat → Int32, sj_Row ai' q s → (∀ j, (j < 30 * q ∨ 30 * q + 30 ≤ j) → ai' j = ai j) → post (c, t, w, ai', lb)) : wpY_copy post (c, t, w, ai, lb) (nI r) (nI q) :=
  ⟨31, sy_copy_l hr hq hn h hp 30 0 ai rfl (fun x hx => absurd hx (by omega)) (fun _ _ => rfl)⟩
theorem sj_Row_k {ai ai' : Nat → Int32} {r : Nat} {s : Int32} (h : sj_Row ai r s) (e : ∀ x, x < 30 → ai' (30 * r + x) = ai (30 * r + x)) : sj_Row ai' r s :=
  fun x hx => (e x hx).trans (h x hx)
