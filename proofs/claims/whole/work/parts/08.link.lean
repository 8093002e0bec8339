/-! the records linked to one, and the reference's labels -/
/-- similar records, as a table -/
def sj_S (t w : Int32) (st : Nat → Int32) (a b : Nat) : Bool := sj_sim t w (st a) (st b)
theorem sj_S_c (t w : Int32) (st : Nat → Int32) (a b : Nat) : sj_S t w st a b = sj_S t w st b a := sj_sim_comm t w (st a) (st b)
theorem sj_close {m q : Nat} {S : Nat → Nat → Bool} {A B : Int32} (h1 : ∀ j, bt A j = true → sj_rc m S q j) (h2 : bt A q = true) (h4 : ∀ a b, a < m → b < m → bt B a = true → S a b = true → bt A b = true) (h : ∀ j, j < m → bt A j = true → bt B j = true) : ∀ j, bt A j = true ↔ sj_rc m S q j :=
  fun j => ⟨h1 j, fun g => g (fun z => bt A z = true) h2 (fun x y hx hy hP e => h4 x y hx hy (h x hx hP) e)⟩
theorem sx_link_l {post : Int32 → Prop} {m q : Nat} (hm : m ≤ 20) (hq : q < m) {d t w : Int32} {st : Nat → Int32} (hp : ∀ A, (∀ j, bt A j = true ↔ sj_rc m (sj_S t w st) q j) → post A) : ∀ (e i : Nat) (A B : Int32), i + e = m → (∀ j, bt A j = true → sj_rc m (sj_S t w st) q j) → bt A q = true → (∀ a b, a < m → b < m → bt B a = true → sj_S t w st a b = true → bt A b = true) → sj_c (bt B) m = i → wX_recordsLinkedTo_9 post (nI m) d t w st (e + 1) A B (nI i) := by
  intro e
  induction e with
  | zero =>
    intro i A B hi h1 h2 h4 h5
    obtain rfl : i = m := by omega
    exact pk_le i i (fun _ => hp A (sj_close h1 h2 h4 (fun j hj _ => sj_c_full h5 j hj))) (fun h => absurd h (by omega))
  | succ e ih =>
    intro i A B hi h1 h2 h4 h5
    refine pk_le m i (fun h => absurd h (by omega)) (fun _ => sx_least (fun h0 => ?_) (fun r hr20 hb hlow => ?_))
    · refine br_f (by decide) (hp A (sj_close h1 h2 h4 (fun j hj ha => ?_)))
      have g := h0 j (by omega)
      rw [sj_minus, ha, Bool.true_and] at g
      cases hB : bt B j
      · rw [hB] at g; exact absurd g (by decide)
      · rfl
    · rw [sj_minus] at hb
      have hA : bt A r = true := (Bool.and_eq_true_iff.mp hb).1
      have hB : bt B r = false := by
        have g := (Bool.and_eq_true_iff.mp hb).2
        cases hB : bt B r
        · rfl
        · rw [hB] at g; exact absurd g (by decide)
      have hrm : r < m := sj_rc_lt hq (h1 r hA)
      refine br_t (nI_pos' (by omega)) (nm_e ⟨vp_in_nI (by omega) (by omega), ?_⟩)
      rw [nI_clamp (n := r) (by omega)]
      refine sx_sims hm (fun Q hQ => nm_e (nm_r (nI_1 i) (ih (i + 1) _ _ (by omega) (fun j hj => ?_) ?_ (fun a b ha hb2 hBa hs => ?_) ?_)))
      · rw [b_or] at hj
        rcases Bool.or_eq_true_iff.mp hj with g | g
        · exact h1 j g
        · rw [hQ j] at g
          have g2 := Bool.and_eq_true_iff.mp g
          exact sj_rc_s (h1 r hA) hrm (of_decide_eq_true g2.1) g2.2
      · rw [b_or, h2, Bool.true_or]
      · rw [sj_on B (by omega)] at hBa
        rw [b_or]
        rcases Bool.or_eq_true_iff.mp hBa with g | g
        · rw [h4 a b ha hb2 g hs, Bool.true_or]
        · have e1 : a = r := of_decide_eq_true g
          rw [e1] at hs
          rw [sj_M_b hQ hb2, show sj_sim t w (st r) (st b) = true from hs, Bool.or_true]
      · rw [← h5]
        refine sj_c_set hrm hB ?_ (fun j hj => ?_)
        · rw [sj_on B (by omega), decide_eq_true rfl, Bool.or_true]
        · rw [sj_on B (by omega), decide_eq_false hj, Bool.or_false]
theorem sx_link {post : Int32 → Prop} {m q : Nat} (hm : m ≤ 20) (hq : q < m) {d t w : Int32} {st : Nat → Int32} (hp : ∀ A, (∀ j, bt A j = true ↔ sj_rc m (sj_S t w st) q j) → post A) : wpX_recordsLinkedTo post (nI m, d, t, w, st) (nI q) := by
  unfold wpX_recordsLinkedTo
  dsimp only
  refine nm_e ⟨m + 1, sx_link_l hm hq hp m 0 _ 0 (by omega) (fun j hj => ?_) ?_ (fun a b _ _ h _ => ?_) ?_⟩
  · rw [sj_one (by omega)] at hj
    rw [of_decide_eq_true hj]
    exact sj_rc_0
  · rw [sj_one (by omega), decide_eq_true rfl]
  · rw [b_0] at h
    exact absurd h (by decide)
  · exact sj_c_zero (fun j _ => b_0 j)
theorem sj_narb (c : Bool) : narrow .boolean (.int (sj_b c)) = .int (sj_b c) := by cases c <;> rfl
theorem sy_low_in {post : Int32 → SY → Prop} {J : Int32 → Int32 → (Nat → Int32) → (Nat → Int32) → Prop} {m a : Nat} (hm : m ≤ 20) (ha : a < m) {t w : Int32} {st ai : Nat → Int32} (hr : ∀ r, r < m → sj_Row ai r (st r)) {L0 : Nat → Nat} (hJ : ∀ (c : Bool) (lb : Nat → Int32) (L : Nat → Nat), sj_Inv m (sj_S t w st) L0 (a + 1) 0 c lb L → J (sj_b c) (nI (a + 1)) ai lb) : ∀ (e b : Nat) (c : Bool) (lb : Nat → Int32) (L : Nat → Nat), b + e = m → sj_Inv m (sj_S t w st) L0 a b c lb L → wY_lower_20 post J (nI a) (nI m) t w (e + 1) (sj_b c) (nI b) ai lb := by
  intro e
  induction e with
  | zero =>
    intro b c lb L hi hI
    obtain rfl : b = m := by omega
    exact pk_le b b (fun _ => nm_r (nI_1 a) (hJ c lb L (sj_inv_row hI))) (fun h => absurd h (by omega))
  | succ e ih =>
    intro b c lb L hi hI
    have hbm : b < m := by omega
    have va := hI.1 a ha
    have vb := hI.1 b hbm
    have vin : vp_in (nI a) 20 := vp_in_nI (by omega) (by omega)
    have vib : vp_in (nI b) 20 := vp_in_nI (by omega) (by omega)
    refine pk_le m b (fun h => absurd h (by omega)) (fun _ => pk_le 20 b (fun h => absurd h (by omega)) (fun _ => ⟨vib, vin, ?_⟩))
    rw [nI_clamp (n := a) (by omega), nI_clamp (n := b) (by omega)]
    refine pk_le (L a) (L b) (fun hle => ?_) (fun hlt => ?_) va.1 vb.1
    · exact nm_r (nI_1 b) (ih (b + 1) c lb L (by omega) (sj_inv_keep hbm hI (fun _ => hle)))
    · refine sy_alike (by omega) (by omega) (hr a ha) (hr b hbm) (sj_br (fun hs => ?_) (fun hs => ⟨vib, vin, ?_⟩))
      · exact nm_r (nI_1 b) (ih (b + 1) c lb L (by omega) (sj_inv_keep hbm hI (fun z => absurd (hs.symm.trans z) (by decide))))
      · exact nm_e (nm_r (nI_1 b) (ih (b + 1) true _ _ (by omega) (sj_inv_set ha hbm hI hs hlt)))
theorem sy_low_l {post : Int32 → SY → Prop} {m : Nat} (hm : m ≤ 20) {t w : Int32} {st ai : Nat → Int32} (hr : ∀ r, r < m → sj_Row ai r (st r)) {L0 : Nat → Nat} (hp : ∀ (c : Bool) (lb : Nat → Int32) (L : Nat → Nat), sj_Inv m (sj_S t w st) L0 m 0 c lb L → post (sj_b c) (nI m, t, w, ai, lb)) : ∀ (e a : Nat) (c : Bool) (lb : Nat → Int32) (L : Nat → Nat), a + e = m → sj_Inv m (sj_S t w st) L0 a 0 c lb L → wY_lower_4 post (nI m) t w (e + 1) (sj_b c) (nI a) ai lb := by
  intro e
  induction e with
  | zero =>
    intro a c lb L hi hI
    obtain rfl : a = m := by omega
    exact pk_le a a (fun _ => ⟨sj_narb c, hp c lb L hI⟩) (fun h => absurd h (by omega))
  | succ e ih =>
    intro a c lb L hi hI
    refine pk_le m a (fun h => absurd h (by omega)) (fun _ => pk_le 20 a (fun h => absurd h (by omega)) (fun _ => ⟨m + 1, ?_⟩))
    exact sy_low_in (st := st) (L0 := L0) hm (by omega) hr (fun c' lb' L' h' => ih (a + 1) c' lb' L' (by omega) h') m 0 c lb L (by omega) hI
theorem sy_low {post : Int32 → SY → Prop} {m : Nat} (hm : m ≤ 20) {t w : Int32} {st ai lb : Nat → Int32} (hr : ∀ r, r < m → sj_Row ai r (st r)) {L : Nat → Nat} (hV : sj_V m (sj_S t w st) lb L) (hp : ∀ (c : Bool) (lb' : Nat → Int32) (L' : Nat → Nat), sj_Inv m (sj_S t w st) L m 0 c lb' L' → post (sj_b c) (nI m, t, w, ai, lb')) : wpY_lower post (nI m, t, w, ai, lb) :=
  ⟨m + 1, sy_low_l (st := st) (L0 := L) hm hr hp m 0 false lb L (by omega) ⟨hV, fun _ _ => Nat.le_refl _, fun _ _ _ => rfl, fun x _ hx => absurd hx (by omega), fun y hy => absurd hy (by omega)⟩⟩
theorem sy_join_l {post : SY → Prop} {m : Nat} (hm : m ≤ 20) {t w : Int32} {st ai : Nat → Int32} (hr : ∀ r, r < m → sj_Row ai r (st r)) (hp : ∀ (lb : Nat → Int32) (L : Nat → Nat), sj_V m (sj_S t w st) lb L → sj_Fin m (sj_S t w st) L → post (nI m, t, w, ai, lb)) : ∀ (e i : Nat) (c : Bool) (lb : Nat → Int32) (L : Nat → Nat), i + e = 20 → sj_V m (sj_S t w st) lb L → (c = false → sj_Fin m (sj_S t w st) L) → (sj_Fin m (sj_S t w st) L ∨ i ≤ sj_c (sj_cor m (sj_S t w st) L) m) → wY_join_25 post (e + 1) (sj_b c) (nI i) (nI m) t w ai lb := by
  intro e
  induction e with
  | zero =>
    intro i c lb L hi hV hc hK
    obtain rfl : i = 20 := by omega
    exact pk_le 20 20 (fun _ => hp lb L hV (sj_full (hK.imp_right (fun h => Nat.le_trans hm h)))) (fun h => absurd h (by omega))
  | succ e ih =>
    intro i c lb L hi hV hc hK
    refine pk_le 20 i (fun h => absurd h (by omega)) (fun _ => sj_br (fun h => hp lb L hV (hc h)) (fun _ => ?_))
    refine sy_low (st := st) hm hr hV (fun c' lb' L' hI => ?_)
    have hB : ∀ a b, a < m → b < m → sj_S t w st a b = true → L' a ≤ L b := fun a b ha hb hs => hI.2.2.2.1 a b ha hb hs
    exact nm_r (nI_1 i) (ih (i + 1) c' lb' L' (by omega) hI.1 (fun h => sj_still (sj_S_c t w st) hV hB (hI.2.2.1 h)) (sj_round (sj_S_c t w st) hV hI.2.1 hB hK))
theorem sy_join_2 {post : SY → Prop} {m : Nat} (hm : m ≤ 20) {t w : Int32} {st ai : Nat → Int32} (hr : ∀ r, r < m → sj_Row ai r (st r)) (hp : ∀ (lb : Nat → Int32) (L : Nat → Nat), sj_V m (sj_S t w st) lb L → sj_Fin m (sj_S t w st) L → post (nI m, t, w, ai, lb)) : ∀ (e i : Nat) (lb : Nat → Int32), i + e = 20 → (∀ j, j < i → lb j = nI j) → wY_join_2 post (nI m) t w (e + 1) (nI i) ai lb := by
  intro e
  induction e with
  | zero =>
    intro i lb hi h
    obtain rfl : i = 20 := by omega
    refine pk_le 20 20 (fun _ => ⟨21, ?_⟩) (fun h => absurd h (by omega))
    exact sy_join_l (st := st) hm hr hp 20 0 true lb (fun j => j) rfl (fun a ha => ⟨h a (by omega), Nat.le_refl a, sj_rc_0⟩) (fun z => nomatch z) (Or.inr (Nat.zero_le _))
  | succ e ih =>
    intro i lb hi h
    refine pk_le 20 i (fun h => absurd h (by omega)) (fun _ => ⟨vp_in_nI (by omega) (by omega), ?_⟩)
    rw [nI_clamp (n := i) (by omega)]
    refine nm_e (nm_r (nI_1 i) (ih (i + 1) _ (by omega) (fun j hj => ?_)))
    by_cases e1 : j = i
    · rw [e1, pk_us]
    · rw [pk_un e1]; exact h j (by omega)
theorem sy_join {post : SY → Prop} {m : Nat} (hm : m ≤ 20) {t w : Int32} {st ai lb : Nat → Int32} (hr : ∀ r, r < m → sj_Row ai r (st r)) (hp : ∀ (lb : Nat → Int32) (L : Nat → Nat), sj_V m (sj_S t w st) lb L → sj_Fin m (sj_S t w st) L → post (nI m, t, w, ai, lb)) : wpY_join post (nI m, t, w, ai, lb) :=
  ⟨21, sy_join_2 (st := st) hm hr hp 20 0 lb rfl (fun j hj => absurd hj (by omega))⟩
