section
/-! rows of the kit, pasted: numbers, branches, bits -/
theorem pk_us {f : Nat → Int32} {k : Nat} {x : Int32} : upd f k x k = x := if_pos rfl
theorem pk_un {f : Nat → Int32} {k j : Nat} {x : Int32} (h : j ≠ k) : upd f k x j = f j := if_neg h
theorem pk_sub {a b : Nat} (h : b ≤ a) : nI a - nI b = nI (a - b) := by
  obtain ⟨c, rfl⟩ : ∃ c, a = c + b := ⟨a - b, by omega⟩
  rw [← nI_add, Int32.add_sub_cancel, Nat.add_sub_cancel]
theorem pk_mul (a b : Nat) : nI a * nI b = nI (a * b) := (Int32.ofNat_mul a b).symm
theorem pk_div {a d : Nat} (ha : a < 2 ^ 31) (h0 : 0 < d) (hd : d < 2 ^ 31) : nI a / nI d = nI (a / d) := by
  apply Int32.toInt_inj.mp
  rw [lg_idiv_nonneg (by rw [nI_toInt ha]; omega) (by rw [nI_toInt hd]; omega), nI_toInt ha, nI_toInt hd, nI_toInt (Nat.lt_of_le_of_lt (Nat.div_le_self a d) ha)]
  first | rfl | exact (Int.natCast_ediv _ _).symm
theorem pk_ix (x : Int32) {n : Nat} (hn : n < 2 ^ 31) : x < 0 ∨ nI n ≤ x ∨ ∃ j : Nat, j < n ∧ x = nI j := by
  by_cases h : x < 0
  · exact Or.inl h
  · obtain ⟨j, hj, rfl⟩ := nI_of h
    by_cases h2 : j < n
    · exact Or.inr (Or.inr ⟨j, h2, rfl⟩)
    · exact Or.inr (Or.inl (nI_le (by omega) hj))
theorem pk_le {x y : Int32} {A B : Prop} (a b : Nat) (f : a ≤ b → A) (g : b < a → B) (hx : x = nI a := by rfl) (hy : y = nI b := by rfl) (ha : a < 2 ^ 31 := by omega) (hb : b < 2 ^ 31 := by omega) : (x ≤ y → A) ∧ (¬ x ≤ y → B) := by
  subst hx hy
  rw [nI_leI ha hb]
  exact ⟨f, fun z => g (by omega)⟩
theorem pk_lt {x y : Int32} {A B : Prop} (a b : Nat) (f : a < b → A) (g : b ≤ a → B) (hx : x = nI a := by rfl) (hy : y = nI b := by rfl) (ha : a < 2 ^ 31 := by omega) (hb : b < 2 ^ 31 := by omega) : (x < y → A) ∧ (¬ x < y → B) := by
  subst hx hy
  rw [nI_ltI ha hb]
  exact ⟨f, fun z => g (by omega)⟩
theorem pk_eq {x y : Int32} {A B : Prop} (a b : Nat) (f : a = b → A) (g : a ≠ b → B) (hx : x = nI a := by rfl) (hy : y = nI b := by rfl) (ha : a < 2 ^ 31 := by omega) (hb : b < 2 ^ 31 := by omega) : (x = y → A) ∧ (¬ x = y → B) := by
  subst hx hy
  rw [nI_eq ha hb]
  exact ⟨f, g⟩
theorem pk_in {x : Int32} (n N : Nat) (h : n < N) (hx : x = nI n := by rfl) (hN : N < 2 ^ 31 := by omega) : vp_in x N := by
  subst hx
  exact vp_in_nI h hN
theorem pk_cl {x : Int32} (n : Nat) (hx : x = nI n := by rfl) (h : n < 2 ^ 31 := by omega) : x.toNatClampNeg = n := by
  subst hx
  exact nI_clamp h
theorem pk_least (P : Nat → Prop) (h : ∃ k, P k) : ∃ k, P k ∧ ∀ j, j < k → ¬ P j := by
  obtain ⟨k, hk⟩ := h
  induction k using Nat.strongRecOn with
  | ind k ih =>
    by_cases e : ∃ j, j < k ∧ P j
    · obtain ⟨j, hj, pj⟩ := e
      exact ih j hj pj
    · exact ⟨k, hk, fun j hj pj => e ⟨j, hj, pj⟩⟩
def bt (x : Int32) (i : Nat) : Bool := x.toBitVec.getLsbD i
theorem b_ext {x y : Int32} (h : ∀ i, i < 32 → bt x i = bt y i) : x = y := Int32.toBitVec_inj.mp (BitVec.eq_of_getLsbD_eq (fun i hi => h i hi))
theorem b_or (x y : Int32) (i : Nat) : bt (x ||| y) i = (bt x i || bt y i) := by unfold bt; rw [Int32.toBitVec_or, BitVec.getLsbD_or]
theorem b_and (x y : Int32) (i : Nat) : bt (x &&& y) i = (bt x i && bt y i) := by unfold bt; rw [Int32.toBitVec_and, BitVec.getLsbD_and]
theorem b_xor (x y : Int32) (i : Nat) : bt (x ^^^ y) i = (bt x i ^^ bt y i) := by unfold bt; rw [Int32.toBitVec_xor, BitVec.getLsbD_xor]
theorem b_big {x : Int32} {i : Nat} (h : 32 ≤ i) : bt x i = false := BitVec.getLsbD_of_ge _ _ h
theorem b_m1 : ∀ i, i < 32 → bt (-1) i = true := by decide +kernel
theorem b_0 (i : Nat) : bt 0 i = false := BitVec.getLsbD_zero
theorem s_l : ∀ n, n < 32 → ((nI n &&& 31).toBitVec.smod 32).toNat = n := by decide +kernel
theorem b_shl (n : Nat) (hn : n < 32) (x : Int32) {i : Nat} (hi : i < 32) : bt (x <<< (nI n &&& 31)) i = (decide (n ≤ i) && bt x (i - n)) := by
  unfold bt
  rw [Int32.toBitVec_shiftLeft]
  show (x.toBitVec <<< ((nI n &&& 31).toBitVec.smod 32).toNat).getLsbD i = _
  rw [s_l n hn, BitVec.getLsbD_shiftLeft]
  rcases Nat.lt_or_ge i n with h | h
  · simp [h, Nat.not_le.mpr h]
  · simp [hi, h, Nat.not_lt.mpr h]
theorem b_sshr (n : Nat) (hn : n < 32) (x : Int32) {i : Nat} (hi : i < 32) : bt (x >>> (nI n &&& 31)) i = if n + i < 32 then bt x (n + i) else bt x 31 := by
  unfold bt
  rw [Int32.toBitVec_shiftRight]
  show (x.toBitVec.sshiftRight ((nI n &&& 31).toBitVec.smod 32).toNat).getLsbD i = _
  rw [s_l n hn, BitVec.getLsbD_sshiftRight, BitVec.msb_eq_getLsbD_last]
  simp [hi]
end
section
/-! counting, sums, sets as bits: no walk here -/
/-- how many of the first n are true -/
def sj_c (f : Nat → Bool) : Nat → Nat
  | 0 => 0
  | n + 1 => sj_c f n + (f n).toNat
theorem sj_c_f {f : Nat → Bool} {n : Nat} (h : f n = false) : sj_c f (n + 1) = sj_c f n := by
  show sj_c f n + (f n).toNat = _
  rw [h]; rfl
theorem sj_c_t {f : Nat → Bool} {n : Nat} (h : f n = true) : sj_c f (n + 1) = sj_c f n + 1 := by
  show sj_c f n + (f n).toNat = _
  rw [h]; rfl
theorem sj_c_le (f : Nat → Bool) (n : Nat) : sj_c f n ≤ n := by
  induction n with
  | zero => exact Nat.le_refl 0
  | succ n ih =>
    cases h : f n
    · rw [sj_c_f h]; omega
    · rw [sj_c_t h]; omega
theorem sj_c_ext {f g : Nat → Bool} {n : Nat} (h : ∀ i, i < n → f i = g i) : sj_c f n = sj_c g n := by
  induction n with
  | zero => rfl
  | succ n ih =>
    show sj_c f n + (f n).toNat = sj_c g n + (g n).toNat
    rw [ih (fun i hi => h i (by omega)), h n (by omega)]
theorem sj_c_mono {f g : Nat → Bool} {n : Nat} (h : ∀ i, i < n → f i = true → g i = true) : sj_c f n ≤ sj_c g n := by
  induction n with
  | zero => exact Nat.le_refl 0
  | succ n ih =>
    have a := ih (fun i hi => h i (by omega))
    cases hf : f n
    · rw [sj_c_f hf]
      cases hg : g n
      · rw [sj_c_f hg]; exact a
      · rw [sj_c_t hg]; omega
    · rw [sj_c_t hf, sj_c_t (h n (by omega) hf)]; omega
theorem sj_c_lt {f g : Nat → Bool} {n k : Nat} (h : ∀ i, i < n → f i = true → g i = true) (hk : k < n) (hf : f k = false) (hg : g k = true) : sj_c f n < sj_c g n := by
  induction n with
  | zero => omega
  | succ n ih =>
    by_cases e : k = n
    · subst e
      have a := sj_c_mono (n := k) (fun i hi => h i (by omega))
      rw [sj_c_f hf, sj_c_t hg]; omega
    · have a := ih (fun i hi => h i (by omega)) (by omega)
      cases hf2 : f n
      · rw [sj_c_f hf2]
        cases hg2 : g n
        · rw [sj_c_f hg2]; exact a
        · rw [sj_c_t hg2]; omega
      · rw [sj_c_t hf2, sj_c_t (h n (by omega) hf2)]; omega
theorem sj_c_tail {f : Nat → Bool} {n N : Nat} (hn : n ≤ N) (h : ∀ i, n ≤ i → f i = false) : sj_c f N = sj_c f n := by
  induction N with
  | zero => obtain rfl : n = 0 := by omega
            rfl
  | succ N ih =>
    by_cases e : n = N + 1
    · rw [e]
    · rw [sj_c_f (h N (by omega))]; exact ih (by omega)
theorem sj_c_set {f g : Nat → Bool} {n k : Nat} (hk : k < n) (hf : f k = false) (hg : g k = true) (h : ∀ i, i ≠ k → g i = f i) : sj_c g n = sj_c f n + 1 := by
  induction n with
  | zero => omega
  | succ n ih =>
    by_cases e : k = n
    · subst e
      rw [sj_c_f hf, sj_c_t hg, sj_c_ext (f := g) (g := f) (fun i hi => h i (by omega))]
    · have a := ih (by omega)
      have b : g n = f n := h n (fun z => e z.symm)
      cases hf2 : f n
      · rw [sj_c_f hf2, sj_c_f (b.trans hf2)]; exact a
      · rw [sj_c_t hf2, sj_c_t (b.trans hf2)]; omega
theorem sj_c_full {f : Nat → Bool} {n : Nat} (h : sj_c f n = n) : ∀ i, i < n → f i = true := by
  induction n with
  | zero => intro i hi; omega
  | succ n ih =>
    have a := sj_c_le f n
    cases hf : f n
    · rw [sj_c_f hf] at h; omega
    · rw [sj_c_t hf] at h
      intro i hi
      by_cases e : i = n
      · rw [e]; exact hf
      · exact ih (by omega) i (by omega)
theorem sj_c_none {f : Nat → Bool} {n : Nat} (h : sj_c f n = 0) : ∀ i, i < n → f i = false := by
  intro i hi
  cases hf : f i
  · rfl
  · have a := sj_c_lt (f := fun _ => false) (g := f) (n := n) (k := i) (fun _ _ z => nomatch z) hi rfl hf
    omega
theorem sj_c_zero {f : Nat → Bool} {n : Nat} (h : ∀ i, i < n → f i = false) : sj_c f n = 0 := by
  induction n with
  | zero => rfl
  | succ n ih => rw [sj_c_f (h n (by omega))]; exact ih (fun i hi => h i (by omega))
theorem sj_c_eq {f g : Nat → Bool} {n : Nat} (h : ∀ i, i < n → f i = true → g i = true) (e : sj_c f n = sj_c g n) : ∀ i, i < n → f i = g i := by
  intro i hi
  cases hf : f i
  · cases hg : g i
    · rfl
    · have a := sj_c_lt h hi hf hg
      omega
  · exact (h i hi hf).symm
/-- a sum -/
def sj_s (g : Nat → Nat) : Nat → Nat
  | 0 => 0
  | n + 1 => sj_s g n + g n
theorem sj_s_ext {g h : Nat → Nat} {n : Nat} (e : ∀ i, i < n → g i = h i) : sj_s g n = sj_s h n := by
  induction n with
  | zero => rfl
  | succ n ih =>
    show sj_s g n + g n = sj_s h n + h n
    rw [ih (fun i hi => e i (by omega)), e n (by omega)]
theorem sj_s_c (g : Nat → Nat) (f : Nat → Bool) (n : Nat) : sj_s (fun a => g a + (f a).toNat) n = sj_s g n + sj_c f n := by
  induction n with
  | zero => rfl
  | succ n ih =>
    show sj_s (fun a => g a + (f a).toNat) n + (g n + (f n).toNat) = (sj_s g n + g n) + (sj_c f n + (f n).toNat)
    rw [ih]; omega
theorem sj_s_le {g : Nat → Nat} {n c : Nat} (h : ∀ i, i < n → g i ≤ c) : sj_s g n ≤ n * c := by
  induction n with
  | zero => exact Nat.zero_le _
  | succ n ih =>
    have a := ih (fun i hi => h i (by omega))
    have b := h n (by omega)
    show sj_s g n + g n ≤ _
    rw [Nat.succ_mul]; omega
/-- pairs from both sides are twice the pairs from one -/
theorem sj_pairs (T : Nat → Nat → Bool) (hs : ∀ a b, T a b = T b a) (h0 : ∀ a, T a a = false) (n : Nat) :
    sj_s (fun a => sj_c (T a) n) n = 2 * sj_s (fun a => sj_c (fun b => decide (a < b) && T a b) n) n := by
  induction n with
  | zero => rfl
  | succ n ih =>
    have e1 : sj_s (fun a => sj_c (T a) (n + 1)) (n + 1) = sj_s (fun a => sj_c (T a) n) n + sj_c (T n) n + sj_c (T n) n := by
      show sj_s (fun a => sj_c (T a) n + (T a n).toNat) n + sj_c (T n) (n + 1) = _
      rw [sj_s_c (fun a => sj_c (T a) n) (fun a => T a n) n, sj_c_f (h0 n), sj_c_ext (f := fun a => T a n) (g := T n) (fun i _ => hs i n)]
    have e2 : sj_s (fun a => sj_c (fun b => decide (a < b) && T a b) (n + 1)) (n + 1) = sj_s (fun a => sj_c (fun b => decide (a < b) && T a b) n) n + sj_c (T n) n := by
      show sj_s (fun a => sj_c (fun b => decide (a < b) && T a b) n + (decide (a < n) && T a n).toNat) n + sj_c (fun b => decide (n < b) && T n b) (n + 1) = _
      rw [sj_s_c (fun a => sj_c (fun b => decide (a < b) && T a b) n) (fun a => decide (a < n) && T a n) n]
      rw [sj_c_zero (f := fun b => decide (n < b) && T n b) (fun i hi => by
        show (decide (n < i) && T n i) = false
        rw [decide_eq_false (by omega), Bool.false_and])]
      rw [sj_c_ext (f := fun a => decide (a < n) && T a n) (g := T n) (fun i hi => by
        show (decide (i < n) && T i n) = T n i
        rw [decide_eq_true hi, Bool.true_and, hs])]
      rfl
    rw [e1, e2, ih]; omega
/-- a truth value as an int -/
def sj_b (b : Bool) : Int32 := nI b.toNat
theorem sj_1 : ∀ j, j < 32 → bt 1 j = decide (j = 0) := by decide +kernel
theorem sj_bb : ∀ b : Bool, ∀ j, j < 32 → bt (sj_b b) j = (b && decide (j = 0)) := by decide +kernel
theorem sj_bit (x : Int32) {i : Nat} (hi : i < 32) : (x >>> (nI i &&& 31)) &&& 1 = sj_b (bt x i) := by
  apply b_ext
  intro j hj
  rw [b_and, b_sshr i hi x hj, sj_1 j hj, sj_bb _ j hj]
  by_cases e : j = 0
  · subst e
    rw [if_pos (by omega)]; rfl
  · rw [decide_eq_false e, Bool.and_false, Bool.and_false]
theorem sj_one {k : Nat} (hk : k < 32) (i : Nat) : bt ((1 : Int32) <<< (nI k &&& 31)) i = decide (i = k) := by
  by_cases hi : i < 32
  · rw [b_shl k hk 1 hi, sj_1 (i - k) (by omega)]
    by_cases e : i = k
    · subst e
      rw [decide_eq_true (Nat.le_refl i), decide_eq_true (by omega), decide_eq_true rfl]; rfl
    · rw [decide_eq_false e]
      by_cases l : k ≤ i
      · rw [decide_eq_false (p := i - k = 0) (by omega), Bool.and_false]
      · rw [decide_eq_false l, Bool.false_and]
  · rw [b_big (by omega), decide_eq_false (by omega)]
theorem sj_not (x : Int32) {i : Nat} (hi : i < 32) : bt (x ^^^ (-1)) i = !bt x i := by
  rw [b_xor, b_m1 i hi, Bool.xor_true]
theorem sj_on (d : Int32) {k : Nat} (hk : k < 32) (i : Nat) : bt (d ||| ((1 : Int32) <<< (nI k &&& 31))) i = (bt d i || decide (i = k)) := by
  rw [b_or, sj_one hk]
theorem sj_off (d : Int32) {k : Nat} (hk : k < 32) (i : Nat) : bt (d &&& (((1 : Int32) <<< (nI k &&& 31)) ^^^ (-1))) i = (bt d i && !decide (i = k)) := by
  by_cases hi : i < 32
  · rw [b_and, sj_not _ hi, sj_one hk]
  · rw [b_and, b_big (x := d) (by omega), Bool.false_and, Bool.false_and]
theorem sj_minus (a b : Int32) (i : Nat) : bt (a &&& (b ^^^ (-1))) i = (bt a i && !bt b i) := by
  by_cases hi : i < 32
  · rw [b_and, sj_not _ hi]
  · rw [b_and, b_big (x := a) (by omega), Bool.false_and, Bool.false_and]
theorem sj_br {b : Bool} {A B : Prop} (f : b = false → A) (g : b = true → B) : (sj_b b = 0 → A) ∧ (¬ sj_b b = 0 → B) := by
  cases b
  · exact br_t (by decide) (f rfl)
  · exact br_f (by decide) (g rfl)
theorem sj_lt {x y : Int32} {post : Int32 → Prop} (hp : post (sj_b (!decide (x < y)))) : (x < y → post 0) ∧ (¬ x < y → post 1) := by
  by_cases h : x < y
  · rw [decide_eq_true h] at hp; exact br_t h hp
  · rw [decide_eq_false h] at hp; exact br_f h hp
theorem sj_nar (b : Bool) : vp_nar .boolean (sj_b b) = sj_b b := by cases b <;> decide
/-- the number of members of a set of tokens (or of records) -/
def sj_n (s : Int32) : Nat := sj_c (bt s) 30
theorem sj_n_le (s : Int32) : sj_n s ≤ 30 := sj_c_le _ 30
/-- are two sets similar -/
def sj_sim (t w a b : Int32) : Bool := !decide (w * nI (sj_n (a &&& b)) < t * nI (sj_n (a ||| b)))
theorem sj_sim_comm (t w a b : Int32) : sj_sim t w a b = sj_sim t w b a := by
  unfold sj_sim
  rw [Int32.and_comm a b, Int32.or_comm a b]
end
section
/-! the private methods, each with a general post -/
theorem sx_tok_no {post : Int32 → Prop} {p : Int32} (h : p < 0 ∨ nI 30 ≤ p) (hp : post 0) : wpX_isToken post p := by
  by_cases h0 : p < 0
  · exact br_t h0 hp
  · exact br_f h0 (br_t (h.resolve_left h0) hp)
theorem sx_tok_ok {post : Int32 → Prop} {j : Nat} (hj : j < 30) (hp : post 1) : wpX_isToken post (nI j) :=
  br_f (nI_pos (by omega)) (pk_le 30 j (fun h => absurd h (by omega)) (fun _ => hp))
theorem sx_rec_no {post : Int32 → Prop} {m : Nat} {d t w : Int32} {st : Nat → Int32} {p : Int32} (h : p < 0 ∨ nI m ≤ p) (hp : post 0) : wpX_isRecord post (nI m, d, t, w, st) p := by
  by_cases h0 : p < 0
  · exact br_t h0 hp
  · exact br_f h0 (br_t (h.resolve_left h0) hp)
theorem sx_rec_ok {post : Int32 → Prop} {m : Nat} {d t w : Int32} {st : Nat → Int32} {j : Nat} (hm : m ≤ 20) (hj : j < m) (hp : post 1) : wpX_isRecord post (nI m, d, t, w, st) (nI j) :=
  br_f (nI_pos (by omega)) (pk_le m j (fun h => absurd h (by omega)) (fun _ => hp))
theorem sy_bad_no {post : Int32 → Prop} {m : Nat} {t w : Int32} {ai lb : Nat → Int32} {p : Int32} (h : p < 0 ∨ nI m ≤ p) (hp : post 1) : wpY_bad post (nI m, t, w, ai, lb) p := by
  by_cases h0 : p < 0
  · exact br_t h0 hp
  · exact br_f h0 (br_t (h.resolve_left h0) hp)
theorem sy_bad_ok {post : Int32 → Prop} {m : Nat} {t w : Int32} {ai lb : Nat → Int32} {j : Nat} (hm : m ≤ 20) (hj : j < m) (hp : post 0) : wpY_bad post (nI m, t, w, ai, lb) (nI j) :=
  br_f (nI_pos (by omega)) (pk_le m j (fun h => absurd h (by omega)) (fun _ => pk_lt j 20 (fun _ => hp) (fun h => absurd h (by omega))))
theorem sy_tok_no {post : Int32 → Prop} {u : SY} {p : Int32} (h : p < 0 ∨ nI 30 ≤ p) (hp : post 1) : wpY_badToken post u p := by
  obtain ⟨c, t, w, ai, lb⟩ := u
  by_cases h0 : p < 0
  · exact br_t h0 hp
  · have h1 : nI 30 ≤ p := h.resolve_left h0
    have h2 : ¬ p ≤ 29 := fun z => absurd (Int32.le_trans h1 z) (by decide)
    exact br_f h0 (br_f h2 hp)
theorem sy_tok_ok {post : Int32 → Prop} {u : SY} {j : Nat} (hj : j < 30) (hp : post 0) : wpY_badToken post u (nI j) := by
  obtain ⟨c, t, w, ai, lb⟩ := u
  exact br_f (nI_pos (by omega)) (pk_le j 29 (fun _ => hp) (fun h => absurd h (by omega)))
theorem sx_in {post : Int32 → Prop} {s : Int32} {i : Nat} (hi : i < 32) (hp : post (sj_b (bt s i))) : wpX_isIn post s (nI i) := by
  unfold wpX_isIn
  rw [sj_bit s hi]
  cases h : bt s i
  · rw [h] at hp; exact br_f (by decide) hp
  · rw [h] at hp; exact br_t (by decide) hp
theorem sx_count_l {post : Int32 → Prop} (s : Int32) (hp : post (nI (sj_n s))) : ∀ d i : Nat, i + d = 30 → wX_countOf_4 post s (d + 1) (nI (sj_c (bt s) i)) (nI i) := by
  intro d
  induction d with
  | zero =>
    intro i hi
    obtain rfl : i = 30 := by omega
    exact pk_le 30 30 (fun _ => hp) (fun h => absurd h (by omega))
  | succ d ih =>
    intro i hi
    refine pk_le 30 i (fun h => absurd h (by omega)) (fun _ => ?_)
    refine nm_r (e' := nI (sj_c (bt s) (i + 1))) ?_ (nm_r (nI_1 i) (ih (i + 1) (by omega)))
    rw [sj_bit s (by omega)]
    exact nI_add _ _
theorem sx_count {post : Int32 → Prop} {s : Int32} (hp : post (nI (sj_n s))) : wpX_countOf post s := ⟨31, sx_count_l s hp 30 0 rfl⟩
theorem sx_sim {post : Int32 → Prop} {c d t w a b : Int32} {st : Nat → Int32} (hp : post (sj_b (sj_sim t w a b))) : wpX_areSimilar post (c, d, t, w, st) a b := by
  unfold wpX_areSimilar
  dsimp only
  exact sx_count (sx_count (sj_lt hp))
/-- the least member below 20 -/
theorem sx_least_l {post : Int32 → Prop} (s : Int32) (h0 : (∀ j, j < 20 → bt s j = false) → post (-1)) (h1 : ∀ r, r < 20 → bt s r = true → (∀ j, j < r → bt s j = false) → post (nI r)) : ∀ d i : Nat, i + d = 20 → (∀ j, j < i → bt s j = false) → wX_leastOf_2 post s (d + 1) (nI i) := by
  intro d
  induction d with
  | zero =>
    intro i hi hn
    obtain rfl : i = 20 := by omega
    exact pk_le 20 20 (fun _ => h0 hn) (fun h => absurd h (by omega))
  | succ d ih =>
    intro i hi hn
    refine pk_le 20 i (fun h => absurd h (by omega)) (fun _ => sx_in (by omega) (sj_br (fun hb => ?_) (fun hb => ?_)))
    · refine nm_r (nI_1 i) (ih (i + 1) (by omega) (fun j hj => ?_))
      by_cases e : j = i
      · rw [e]; exact hb
      · exact hn j (by omega)
    · exact h1 i (by omega) hb hn
theorem sx_least {post : Int32 → Prop} {s : Int32} (h0 : (∀ j, j < 20 → bt s j = false) → post (-1)) (h1 : ∀ r, r < 20 → bt s r = true → (∀ j, j < r → bt s j = false) → post (nI r)) : wpX_leastOf post s :=
  ⟨21, sx_least_l s h0 h1 20 0 rfl (fun j hj => absurd hj (by omega))⟩
/-- the set of the records similar to a set -/
def sj_M (m : Nat) (f : Nat → Bool) (R : Int32) : Prop := ∀ j, bt R j = (decide (j < m) && f j)
theorem sx_sims_l {post : Int32 → Prop} {m : Nat} (hm : m ≤ 20) {d t w s : Int32} {st : Nat → Int32} (hp : ∀ R, sj_M m (fun j => sj_sim t w s (st j)) R → post R) : ∀ e i R, i + e = m → sj_M i (fun j => sj_sim t w s (st j)) R → wX_recordsSimilarTo_4 post s (nI m) d t w st (e + 1) R (nI i) := by
  intro e
  induction e with
  | zero =>
    intro i R hi hR
    obtain rfl : i = m := by omega
    exact pk_le i i (fun _ => hp R hR) (fun h => absurd h (by omega))
  | succ e ih =>
    intro i R hi hR
    refine pk_le m i (fun h => absurd h (by omega)) (fun _ => ⟨vp_in_nI (by omega) (by omega), ?_⟩)
    rw [nI_clamp (n := i) (by omega)]
    refine sx_sim (sj_br (fun hb => ?_) (fun hb => ?_))
    · refine nm_r (nI_1 i) (ih (i + 1) R (by omega) (fun j => ?_))
      rw [hR j]
      by_cases e1 : j = i
      · subst e1
        dsimp only
        rw [hb, Bool.and_false, Bool.and_false]
      · rw [show decide (j < i) = decide (j < i + 1) from decide_eq_decide.mpr (by omega)]
    · refine nm_e (nm_r (nI_1 i) (ih (i + 1) _ (by omega) (fun j => ?_)))
      rw [sj_on R (by omega), hR j]
      by_cases e1 : j = i
      · subst e1
        dsimp only
        rw [hb, decide_eq_true (p := j = j) rfl, decide_eq_true (p := j < j + 1) (by omega), Bool.or_true]; rfl
      · rw [decide_eq_false e1, Bool.or_false, show decide (j < i) = decide (j < i + 1) from decide_eq_decide.mpr (by omega)]
theorem sx_sims {post : Int32 → Prop} {m : Nat} (hm : m ≤ 20) {d t w s : Int32} {st : Nat → Int32} (hp : ∀ R, sj_M m (fun j => sj_sim t w s (st j)) R → post R) : wpX_recordsSimilarTo post (nI m, d, t, w, st) s :=
  ⟨m + 1, sx_sims_l hm hp m 0 0 (by omega) (fun j => by rw [b_0, decide_eq_false (by omega), Bool.false_and])⟩
/-- the others that are similar to record q -/
theorem sx_oth {post : Int32 → Prop} {m q : Nat} (hm : m ≤ 20) (hq : q < m) {d t w : Int32} {st : Nat → Int32} (hp : ∀ R, sj_M m (fun j => sj_sim t w (st q) (st j) && !decide (j = q)) R → post R) : wpX_othersSimilarTo post (nI m, d, t, w, st) (nI q) := by
  unfold wpX_othersSimilarTo
  dsimp only
  refine ⟨vp_in_nI (by omega) (by omega), ?_⟩
  rw [nI_clamp (n := q) (by omega)]
  refine sx_sims hm (fun R hR => hp _ (fun j => ?_))
  rw [sj_off R (by omega), hR j, Bool.and_assoc]
theorem sj_M_n {m : Nat} (hm : m ≤ 20) {f : Nat → Bool} {R : Int32} (h : sj_M m f R) : sj_n R = sj_c f m := by
  unfold sj_n
  rw [sj_c_tail (n := m) (by omega) (fun i hi => by rw [h i, decide_eq_false (by omega), Bool.false_and])]
  exact sj_c_ext (fun i hi => by rw [h i, decide_eq_true hi, Bool.true_and])
theorem sj_M_b {m : Nat} {f : Nat → Bool} {R : Int32} (h : sj_M m f R) {j : Nat} (hj : j < m) : bt R j = f j := by
  rw [h j, decide_eq_true hj, Bool.true_and]
/-! the reference's table -/
def sj_Row (ai : Nat → Int32) (r : Nat) (s : Int32) : Prop := ∀ x, x < 30 → ai (30 * r + x) = sj_b (bt s x)
theorem sj_ix (r x : Nat) : (30 : Int32) * nI r + nI x = nI (30 * r + x) := by
  show nI 30 * nI r + nI x = _
  rw [pk_mul, nI_add]
theorem sj_i6 (x : Nat) : (600 : Int32) + nI x = nI (30 * 20 + x) := nI_add 600 x
theorem sy_rd {A B : Prop} {ai : Nat → Int32} {r x : Nat} {s e : Int32} (hr : r ≤ 20) (hx : x < 30) (h : sj_Row ai r s) (he : e = nI (30 * r + x)) (f : bt s x = false → A) (g : bt s x = true → B) : vp_in e 630 ∧ ((ai e.toNatClampNeg = 0 → A) ∧ (¬ ai e.toNatClampNeg = 0 → B)) := by
  subst he
  rw [nI_clamp (by omega), h x hx]
  exact ⟨vp_in_nI (by omega) (by omega), sj_br f g⟩
theorem sy_size_l {post : Int32 → Prop} {c t w : Int32} {ai lb : Nat → Int32} {r : Nat} {s : Int32} (hr : r ≤ 20) (h : sj_Row ai r s) (hp : post (nI (sj_n s))) : ∀ d i : Nat, i + d = 30 → wY_sizeOf_4 post (nI r) c t w ai lb (d + 1) (nI (sj_c (bt s) i)) (nI i) := by
  intro d
  induction d with
  | zero =>
    intro i hi
    obtain rfl : i = 30 := by omega
    exact pk_le 30 30 (fun _ => hp) (fun h => absurd h (by omega))
  | succ d ih =>
    intro i hi
    refine pk_le 30 i (fun h => absurd h (by omega)) (fun _ => sy_rd hr (by omega) h (sj_ix r i) (fun hb => ?_) (fun hb => ?_))
    · refine nm_r (nI_1 i) ?_
      rw [← sj_c_f hb]
      exact ih (i + 1) (by omega)
    · refine nm_r (e' := nI (sj_c (bt s) (i + 1))) ?_ (nm_r (nI_1 i) (ih (i + 1) (by omega)))
      rw [sj_c_t hb]
      exact nI_1 _
theorem sy_size {post : Int32 → Prop} {c t w : Int32} {ai lb : Nat → Int32} {r : Nat} {s : Int32} (hr : r ≤ 20) (h : sj_Row ai r s) (hp : post (nI (sj_n s))) : wpY_sizeOf post (c, t, w, ai, lb) (nI r) :=
  ⟨31, sy_size_l hr h hp 30 0 rfl⟩
theorem sy_both_l {post : Int32 → Prop} {c t w : Int32} {ai lb : Nat → Int32} {r q : Nat} {a b : Int32} (hr : r ≤ 20) (hq : q ≤ 20) (h : sj_Row ai r a) (g : sj_Row ai q b) (hp : post (nI (sj_n (a &&& b)))) : ∀ d i : Nat, i + d = 30 → wY_both_5 post (nI r) (nI q) c t w ai lb (d + 1) (nI (sj_c (bt (a &&& b)) i)) (nI i) := by
  intro d
  induction d with
  | zero =>
    intro i hi
    obtain rfl : i = 30 := by omega
    exact pk_le 30 30 (fun _ => hp) (fun h => absurd h (by omega))
  | succ d ih =>
    intro i hi
    refine pk_le 30 i (fun h => absurd h (by omega)) (fun _ => sy_rd hr (by omega) h (sj_ix r i) (fun ha => ?_) (fun ha => sy_rd hq (by omega) g (sj_ix q i) (fun hb => ?_) (fun hb => ?_)))
    · refine nm_r (nI_1 i) ?_
      rw [← sj_c_f (f := bt (a &&& b)) (n := i) (by rw [b_and, ha, Bool.false_and])]
      exact ih (i + 1) (by omega)
    · refine nm_r (nI_1 i) ?_
      rw [← sj_c_f (f := bt (a &&& b)) (n := i) (by rw [b_and, hb, Bool.and_false])]
      exact ih (i + 1) (by omega)
    · refine nm_r (e' := nI (sj_c (bt (a &&& b)) (i + 1))) ?_ (nm_r (nI_1 i) (ih (i + 1) (by omega)))
      rw [sj_c_t (f := bt (a &&& b)) (n := i) (by rw [b_and, ha, hb]; rfl)]
      exact nI_1 _
theorem sy_both {post : Int32 → Prop} {c t w : Int32} {ai lb : Nat → Int32} {r q : Nat} {a b : Int32} (hr : r ≤ 20) (hq : q ≤ 20) (h : sj_Row ai r a) (g : sj_Row ai q b) (hp : post (nI (sj_n (a &&& b)))) : wpY_both post (c, t, w, ai, lb) (nI r) (nI q) :=
  ⟨31, sy_both_l hr hq h g hp 30 0 rfl⟩
theorem sy_either_l {post : Int32 → Prop} {c t w : Int32} {ai lb : Nat → Int32} {r q : Nat} {a b : Int32} (hr : r ≤ 20) (hq : q ≤ 20) (h : sj_Row ai r a) (g : sj_Row ai q b) (hp : post (nI (sj_n (a ||| b)))) : ∀ d i : Nat, i + d = 30 → wY_either_5 post (nI r) (nI q) c t w ai lb (d + 1) (nI (sj_c (bt (a ||| b)) i)) (nI i) := by
  intro d
  induction d with
  | zero =>
    intro i hi
    obtain rfl : i = 30 := by omega
    exact pk_le 30 30 (fun _ => hp) (fun h => absurd h (by omega))
  | succ d ih =>
    intro i hi
    refine pk_le 30 i (fun h => absurd h (by omega)) (fun _ => sy_rd hr (by omega) h (sj_ix r i) (fun ha => sy_rd hq (by omega) g (sj_ix q i) (fun hb => ?_) (fun hb => ?_)) (fun ha => ?_))
    · refine nm_r (nI_1 i) ?_
      rw [← sj_c_f (f := bt (a ||| b)) (n := i) (by rw [b_or, ha, hb]; rfl)]
      exact ih (i + 1) (by omega)
    · refine nm_r (e' := nI (sj_c (bt (a ||| b)) (i + 1))) ?_ (nm_r (nI_1 i) (ih (i + 1) (by omega)))
      rw [sj_c_t (f := bt (a ||| b)) (n := i) (by rw [b_or, hb, Bool.or_true])]
      exact nI_1 _
    · refine nm_r (e' := nI (sj_c (bt (a ||| b)) (i + 1))) ?_ (nm_r (nI_1 i) (ih (i + 1) (by omega)))
      rw [sj_c_t (f := bt (a ||| b)) (n := i) (by rw [b_or, ha, Bool.true_or])]
      exact nI_1 _
theorem sy_either {post : Int32 → Prop} {c t w : Int32} {ai lb : Nat → Int32} {r q : Nat} {a b : Int32} (hr : r ≤ 20) (hq : q ≤ 20) (h : sj_Row ai r a) (g : sj_Row ai q b) (hp : post (nI (sj_n (a ||| b)))) : wpY_either post (c, t, w, ai, lb) (nI r) (nI q) :=
  ⟨31, sy_either_l hr hq h g hp 30 0 rfl⟩
theorem sy_alike {post : Int32 → Prop} {c t w : Int32} {ai lb : Nat → Int32} {r q : Nat} {a b : Int32} (hr : r ≤ 20) (hq : q ≤ 20) (h : sj_Row ai r a) (g : sj_Row ai q b) (hp : post (sj_b (sj_sim t w a b))) : wpY_alike post (c, t, w, ai, lb) (nI r) (nI q) := by
  unfold wpY_alike
  dsimp only
  exact sy_both hr hq h g (sy_either hr hq h g (sj_lt hp))
/-- copy row r to row q -/
theorem sy_copy_l {post : SY → Prop} {c t w : Int32} {ai lb : Nat → Int32} {r q : Nat} {s : Int32} (hr : r ≤ 20) (hq : q ≤ 20) (hn : r ≠ q) (h : sj_Row ai r s) (hp : ∀ ai' : Nat → Int32, sj_Row ai' q s → (∀ j, (j < 30 * q ∨ 30 * q + 30 ≤ j) → ai' j = ai j) → post (c, t, w, ai', lb)) : ∀ (d i : Nat) (ai' : Nat → Int32), i + d = 30 → (∀ x, x < i → ai' (30 * q + x) = sj_b (bt s x)) → (∀ j, (j < 30 * q ∨ 30 * q + 30 ≤ j) → ai' j = ai j) → wY_copy_2 post (nI r) (nI q) c t w (d + 1) (nI i) ai' lb := by
  intro d
  induction d with
  | zero =>
    intro i ai' hi h1 h2
    obtain rfl : i = 30 := by omega
    exact pk_le 30 30 (fun _ => hp ai' h1 h2) (fun h => absurd h (by omega))
  | succ d ih =>
    intro i ai' hi h1 h2
    refine pk_le 30 i (fun h => absurd h (by omega)) (fun _ => ?_)
    rw [sj_ix r i, sj_ix q i]
    refine ⟨vp_in_nI (by omega) (by omega), vp_in_nI (by omega) (by omega), ?_⟩
    rw [nI_clamp (n := 30 * r + i) (by omega), nI_clamp (n := 30 * q + i) (by omega), h2 (30 * r + i) (by omega), h i (by omega), sj_nar]
    refine nm_e (nm_r (nI_1 i) (ih (i + 1) _ (by omega) (fun x hx => ?_) (fun j hj => ?_)))
    · by_cases e : x = i
      · rw [e, pk_us]
      · rw [pk_un (by omega)]; exact h1 x (by omega)
    · rw [pk_un (by omega)]; exact h2 j hj
theorem sy_copy {post : SY → Prop} {c t w : Int32} {ai lb : Nat → Int32} {r q : Nat} {s : Int32} (hr : r ≤ 20) (hq : q ≤ 20) (hn : r ≠ q) (h : sj_Row ai r s) (hp : ∀ ai' : Nat → Int32, sj_Row ai' q s → (∀ j, (j < 30 * q ∨ 30 * q + 30 ≤ j) → ai' j = ai j) → post (c, t, w, ai', lb)) : wpY_copy post (c, t, w, ai, lb) (nI r) (nI q) :=
  ⟨31, sy_copy_l hr hq hn h hp 30 0 ai rfl (fun x hx => absurd hx (by omega)) (fun _ _ => rfl)⟩
theorem sj_Row_k {ai ai' : Nat → Int32} {r : Nat} {s : Int32} (h : sj_Row ai r s) (e : ∀ x, x < 30 → ai' (30 * r + x) = ai (30 * r + x)) : sj_Row ai' r s :=
  fun x hx => (e x hx).trans (h x hx)
end
section
/-! the relation, and the methods that change something -/
/-- a set of tokens: no bit beyond 29, at most 12 members -/
def sj_Ok (s : Int32) : Prop := (∀ x, 30 ≤ x → bt s x = false) ∧ sj_n s ≤ 12
/-- row 20 of the reference's table is the draft, row r is record r; the rest is held alike -/
def i_Rel (k : Nat) (u : SX) (v : SY) : Prop := ∃ (m : Nat) (d t w : Int32) (st ai lb : Nat → Int32), m ≤ 20 ∧ u = (nI m, d, t, w, st) ∧ v = (nI m, t, w, ai, lb) ∧ (sj_Ok d ∧ sj_Row ai 20 d) ∧ ∀ r, r < m → sj_Ok (st r) ∧ sj_Row ai r (st r)
theorem i_up {k : Nat} {u : SX} {v : SY} (h : i_Rel k u v) : i_Rel (k + 3) u v := h
theorem sj_rel {k m : Nat} {d t w : Int32} {st ai lb : Nat → Int32} (hm : m ≤ 20) (h : sj_Ok d) (hD : sj_Row ai 20 d) (hr : ∀ r, r < m → sj_Ok (st r) ∧ sj_Row ai r (st r)) : i_Rel k (nI m, d, t, w, st) (nI m, t, w, ai, lb) :=
  ⟨m, d, t, w, st, ai, lb, hm, rfl, rfl, ⟨h, hD⟩, hr⟩
theorem sj_ok0 : sj_Ok 0 := ⟨fun x _ => b_0 x, by decide +kernel⟩
theorem i_vc0 : wpX_init (fun u => wpY_init (fun v => i_Rel 0 u v)) :=
  sj_rel (k := 0) (m := 0) (by omega) sj_ok0 (fun x _ => by rw [b_0]; rfl) (fun r hr => absurd hr (by omega))
theorem sj_two (p : Int32) {n : Nat} (hn : n < 2 ^ 31) : (p < 0 ∨ nI n ≤ p) ∨ ∃ j : Nat, j < n ∧ p = nI j := by
  rcases pk_ix p hn with h | h | h
  · exact Or.inl (Or.inl h)
  · exact Or.inl (Or.inr h)
  · exact Or.inr h
/-- one cell of the draft's row is written -/
theorem sy_put {P : (Nat → Int32) → Prop} {ai : Nat → Int32} {d g : Int32} {j : Nat} (b : Bool) (hj : j < 30) (hD : sj_Row ai 20 d) (hg : ∀ x, x < 30 → bt g x = if x = j then b else bt d x) (hp : ∀ ai' : Nat → Int32, sj_Row ai' 20 g → (∀ i, i < 600 → ai' i = ai i) → P ai') : vp_in ((600 : Int32) + nI j) 630 ∧ ∀ a' : Nat → Int32, a' = upd ai ((600 : Int32) + nI j).toNatClampNeg (vp_nar .boolean (sj_b b)) → P a' := by
  rw [sj_i6, nI_clamp (by omega), sj_nar]
  refine ⟨vp_in_nI (by omega) (by omega), nm_e (hp _ (fun x hx => ?_) (fun i hi => pk_un (by omega)))⟩
  rw [hg x hx]
  by_cases e : x = j
  · rw [if_pos e, e, pk_us]
  · rw [if_neg e, pk_un (by omega)]; exact hD x hx
theorem sj_keep {m : Nat} (hm : m ≤ 20) {st ai ai' : Nat → Int32} (hr : ∀ r, r < m → sj_Ok (st r) ∧ sj_Row ai r (st r)) (e : ∀ i, i < 600 → ai' i = ai i) : ∀ r, r < m → sj_Ok (st r) ∧ sj_Row ai' r (st r) :=
  fun r h => ⟨(hr r h).1, sj_Row_k (hr r h).2 (fun x hx => e _ (by omega))⟩
theorem sj_on_row {d : Int32} {j : Nat} (hj : j < 30) : ∀ x, x < 30 → bt (d ||| ((1 : Int32) <<< (nI j &&& 31))) x = if x = j then true else bt d x := by
  intro x hx
  rw [sj_on d (by omega)]
  by_cases e : x = j
  · rw [if_pos e, decide_eq_true e, Bool.or_true]
  · rw [if_neg e, decide_eq_false e, Bool.or_false]
theorem sj_off_row {d : Int32} {j : Nat} (hj : j < 30) : ∀ x, x < 30 → bt (d &&& (((1 : Int32) <<< (nI j &&& 31)) ^^^ (-1))) x = if x = j then false else bt d x := by
  intro x hx
  rw [sj_off d (by omega)]
  by_cases e : x = j
  · rw [if_pos e, decide_eq_true e, Bool.not_true, Bool.and_false]
  · rw [if_neg e, decide_eq_false e, Bool.not_false, Bool.and_true]
theorem sj_on_n {d : Int32} {j : Nat} (hj : j < 30) : sj_n (d ||| ((1 : Int32) <<< (nI j &&& 31))) = if bt d j = true then sj_n d else sj_n d + 1 := by
  cases h : bt d j
  · rw [if_neg (by decide)]
    refine sj_c_set hj h ?_ (fun i hi => ?_)
    · rw [sj_on d (by omega), decide_eq_true rfl, Bool.or_true]
    · rw [sj_on d (by omega), decide_eq_false hi, Bool.or_false]
  · rw [if_pos rfl]
    refine sj_c_ext (fun i hi => ?_)
    rw [sj_on_row hj i hi]
    by_cases e : i = j
    · rw [if_pos e, e, h]
    · rw [if_neg e]
theorem sj_on_hi {d : Int32} {j : Nat} (hj : j < 30) (h : ∀ x, 30 ≤ x → bt d x = false) : ∀ x, 30 ≤ x → bt (d ||| ((1 : Int32) <<< (nI j &&& 31))) x = false := by
  intro x hx
  rw [sj_on d (by omega), h x hx, decide_eq_false (by omega)]; rfl
theorem sj_off_ok {d : Int32} {j : Nat} (hj : j < 30) (h : sj_Ok d) : sj_Ok (d &&& (((1 : Int32) <<< (nI j &&& 31)) ^^^ (-1))) := by
  refine ⟨fun x hx => ?_, Nat.le_trans (sj_c_mono (fun i hi e => ?_)) h.2⟩
  · rw [sj_off d (by omega), h.1 x hx, Bool.false_and]
  · rw [sj_off d (by omega)] at e
    exact (Bool.and_eq_true_iff.mp e).1
theorem sy_t37 {post : Int32 → SY → Prop} {c t w d : Int32} {ai lb : Nat → Int32} {j : Nat} (hj : j < 30) (hD : sj_Row ai 20 d) (hp : ∀ ai' : Nat → Int32, sj_Row ai' 20 (d ||| ((1 : Int32) <<< (nI j &&& 31))) → (∀ i, i < 600 → ai' i = ai i) → post (nI (sj_n (d ||| ((1 : Int32) <<< (nI j &&& 31))))) (c, t, w, ai', lb)) : wY_token_37 post (nI j) c t w ai lb :=
  sy_put (P := fun a' => wpY_sizeOf (fun r_17 => (post r_17 (c, t, w, a', lb))) (c, t, w, a', lb) 20) true hj hD (sj_on_row hj) (fun ai' h1 h2 => sy_size (r := 20) (by omega) h1 (hp ai' h1 h2))
theorem i_vc_token {k : Nat} {u : SX} {v : SY} (I : i_Rel k u v) (hk : k + 3 ≤ 1536) (v1 : Int32) : wpX_token (fun r u' => wpY_token (fun r' v' => r' = r ∧ i_Rel (k + 3) u' v') v v1) u v1 := by
  obtain ⟨m, d, t, w, st, ai, lb, hm, rfl, rfl, ⟨hd, hD⟩, hr⟩ := I
  unfold wpX_token
  dsimp only
  rcases sj_two v1 (n := 30) (by omega) with h | ⟨j, hj, rfl⟩
  · refine sx_tok_no h (br_t rfl ?_)
    unfold wpY_token
    dsimp only
    exact sy_tok_no h (br_f (by decide) ⟨rfl, sj_rel hm hd hD hr⟩)
  · refine sx_tok_ok hj (br_f (by decide) (nm_e (sx_count ?_)))
    have hn := sj_on_n (d := d) hj
    have hle := sj_n_le (d ||| ((1 : Int32) <<< (nI j &&& 31)))
    have hd2 := hd.2
    refine pk_le (sj_n (d ||| ((1 : Int32) <<< (nI j &&& 31)))) 12 (fun h => ?_) (fun h => ?_)
    · have T : wY_token_37 (fun r' v' => r' = nI (sj_n (d ||| ((1 : Int32) <<< (nI j &&& 31)))) ∧ i_Rel (k + 3) (nI m, d ||| ((1 : Int32) <<< (nI j &&& 31)), t, w, st) v') (nI j) (nI m) t w ai lb :=
        sy_t37 hj hD (fun ai' h1 h2 => ⟨rfl, sj_rel hm ⟨sj_on_hi hj hd.1, h⟩ h1 (sj_keep hm hr h2)⟩)
      unfold wpY_token
      dsimp only
      refine sy_tok_ok hj (br_t rfl (sy_size (r := 20) (by omega) hD ?_))
      refine pk_eq (sj_n d) 12 (fun h12 => sy_rd (r := 20) (by omega) hj hD (sj_i6 j) (fun hb => ?_) (fun _ => T)) (fun _ => T)
      rw [hb, if_neg (by decide)] at hn
      omega
    · unfold wpY_token
      dsimp only
      refine sy_tok_ok hj (br_t rfl (sy_size (r := 20) (by omega) hD ?_))
      have hb : bt d j = false := by
        cases hb : bt d j
        · rfl
        · rw [hb, if_pos rfl] at hn; omega
      rw [hb, if_neg (by decide)] at hn
      exact pk_eq (sj_n d) 12 (fun h12 => sy_rd (r := 20) (by omega) hj hD (sj_i6 j) (fun _ => ⟨rfl, sj_rel hm hd hD hr⟩) (fun z => absurd (hb.symm.trans z) (by decide))) (fun z => absurd (show sj_n d = 12 by omega) z)
theorem i_vc_drop {k : Nat} {u : SX} {v : SY} (I : i_Rel k u v) (hk : k + 3 ≤ 1536) (v1 : Int32) : wpX_drop (fun r u' => wpY_drop (fun r' v' => r' = r ∧ i_Rel (k + 3) u' v') v v1) u v1 := by
  obtain ⟨m, d, t, w, st, ai, lb, hm, rfl, rfl, ⟨hd, hD⟩, hr⟩ := I
  unfold wpX_drop
  dsimp only
  rcases sj_two v1 (n := 30) (by omega) with h | ⟨j, hj, rfl⟩
  · refine sx_tok_no h (br_t rfl ?_)
    unfold wpY_drop
    dsimp only
    exact sy_tok_no h (br_f (by decide) ⟨rfl, sj_rel hm hd hD hr⟩)
  · refine sx_tok_ok hj (br_f (by decide) (nm_e (sx_count ?_)))
    unfold wpY_drop
    dsimp only
    refine sy_tok_ok hj (br_t rfl ?_)
    exact sy_put (P := fun a' => wpY_sizeOf (fun r_17 => (r_17 = nI (sj_n (d &&& (((1 : Int32) <<< (nI j &&& 31)) ^^^ (-1)))) ∧ i_Rel (k + 3) (nI m, d &&& (((1 : Int32) <<< (nI j &&& 31)) ^^^ (-1)), t, w, st) (nI m, t, w, a', lb))) (nI m, t, w, a', lb) 20) false hj hD (sj_off_row hj) (fun ai' h1 h2 => sy_size (r := 20) (by omega) h1 ⟨rfl, sj_rel hm (sj_off_ok hj hd) h1 (sj_keep hm hr h2)⟩)
theorem sy_clear_l {post : Int32 → SY → Prop} {c t w x1 : Int32} {ai lb : Nat → Int32} (hp : ∀ ai' : Nat → Int32, sj_Row ai' 20 0 → (∀ i, i < 600 → ai' i = ai i) → post x1 (c, t, w, ai', lb)) : ∀ (e i : Nat) (ai' : Nat → Int32), i + e = 30 → (∀ x, x < i → ai' (30 * 20 + x) = sj_b false) → (∀ i, i < 600 → ai' i = ai i) → wY_clear_9 post x1 c t w (e + 1) (nI i) ai' lb := by
  intro e
  induction e with
  | zero =>
    intro i ai' hi h1 h2
    obtain rfl : i = 30 := by omega
    exact pk_le 30 30 (fun _ => hp ai' (fun x hx => by rw [b_0]; exact h1 x hx) h2) (fun h => absurd h (by omega))
  | succ e ih =>
    intro i ai' hi h1 h2
    refine pk_le 30 i (fun h => absurd h (by omega)) (fun _ => ?_)
    rw [sj_i6 i]
    refine ⟨vp_in_nI (by omega) (by omega), ?_⟩
    rw [nI_clamp (n := 30 * 20 + i) (by omega)]
    refine nm_e (nm_r (nI_1 i) (ih (i + 1) _ (by omega) (fun x hx => ?_) (fun j hj => ?_)))
    · by_cases e : x = i
      · rw [e, pk_us]; exact sj_nar false
      · rw [pk_un (by omega)]; exact h1 x (by omega)
    · rw [pk_un (by omega)]; exact h2 j hj
theorem i_vc_clear {k : Nat} {u : SX} {v : SY} (I : i_Rel k u v) (hk : k + 3 ≤ 1536) : wpX_clear (fun r u' => wpY_clear (fun r' v' => r' = r ∧ i_Rel (k + 3) u' v') v) u := by
  obtain ⟨m, d, t, w, st, ai, lb, hm, rfl, rfl, ⟨hd, hD⟩, hr⟩ := I
  unfold wpX_clear
  dsimp only
  refine sx_count ?_
  unfold wpY_clear
  dsimp only
  refine sy_size (r := 20) (by omega) hD ⟨31, ?_⟩
  exact sy_clear_l (ai := ai) (fun ai' h1 h2 => ⟨rfl, sj_rel hm sj_ok0 h1 (sj_keep hm hr h2)⟩) 30 0 ai rfl (fun x hx => absurd hx (by omega)) (fun _ _ => rfl)
theorem i_vc_recall {k : Nat} {u : SX} {v : SY} (I : i_Rel k u v) (hk : k + 3 ≤ 1536) (v1 : Int32) : wpX_recall (fun r u' => wpY_recall (fun r' v' => r' = r ∧ i_Rel (k + 3) u' v') v v1) u v1 := by
  obtain ⟨m, d, t, w, st, ai, lb, hm, rfl, rfl, ⟨hd, hD⟩, hr⟩ := I
  unfold wpX_recall
  dsimp only
  rcases sj_two v1 (n := m) (by omega) with h | ⟨j, hj, rfl⟩
  · refine sx_rec_no h (br_t rfl ?_)
    unfold wpY_recall
    dsimp only
    exact sy_bad_no h (br_f (by decide) ⟨rfl, sj_rel hm hd hD hr⟩)
  · refine sx_rec_ok hm hj (br_f (by decide) ⟨vp_in_nI (by omega) (by omega), ?_⟩)
    rw [nI_clamp (n := j) (by omega)]
    refine nm_e (sx_count ?_)
    unfold wpY_recall
    dsimp only
    refine sy_bad_ok hm hj (br_t rfl ?_)
    refine sy_copy (r := j) (q := 20) (by omega) (by omega) (by omega) (hr j hj).2 (fun ai' h1 h2 => ?_)
    exact sy_size (r := 20) (by omega) h1 ⟨rfl, sj_rel hm (hr j hj).1 h1 (sj_keep hm hr (fun i hi => h2 i (by omega)))⟩
theorem sj_n0 {d : Int32} (h : sj_Ok d) (h0 : sj_n d = 0) : d = 0 := by
  refine b_ext (fun i _ => ?_)
  rw [b_0]
  by_cases e : i < 30
  · exact sj_c_none h0 i e
  · exact h.1 i (by omega)
theorem sj_n00 : sj_n 0 = 0 := by decide +kernel
theorem i_vc_store {k : Nat} {u : SX} {v : SY} (I : i_Rel k u v) (hk : k + 3 ≤ 1536) : wpX_store (fun r u' => wpY_store (fun r' v' => r' = r ∧ i_Rel (k + 3) u' v') v) u := by
  obtain ⟨m, d, t, w, st, ai, lb, hm, rfl, rfl, ⟨hd, hD⟩, hr⟩ := I
  have hle := sj_n_le d
  unfold wpX_store
  dsimp only
  by_cases h0 : d = 0
  · refine br_t h0 ?_
    unfold wpY_store
    dsimp only
    refine sy_size (r := 20) (by omega) hD ?_
    exact pk_eq (sj_n d) 0 (fun _ => ⟨rfl, sj_rel hm hd hD hr⟩) (fun z => absurd (by rw [h0]; exact sj_n00) z)
  · refine br_f h0 ?_
    have hn : sj_n d ≠ 0 := fun z => h0 (sj_n0 hd z)
    refine pk_lt m 20 (fun h => ⟨vp_in_nI (by omega) (by omega), ?_⟩) (fun h => ?_)
    · rw [nI_clamp (n := m) (by omega)]
      refine nm_e (nm_r (nI_1 m) ?_)
      unfold wpY_store
      dsimp only
      refine sy_size (r := 20) (by omega) hD ?_
      refine pk_eq (sj_n d) 0 (fun z => absurd z hn) (fun _ => pk_lt m 20 (fun _ => ?_) (fun z => absurd z (by omega)))
      refine sy_copy (r := 20) (q := m) (by omega) (by omega) (by omega) hD (fun ai' h1 h2 => ?_)
      refine nm_r (nI_1 m) ⟨rfl, sj_rel (by omega) hd (sj_Row_k hD (fun x hx => h2 _ (by omega))) (fun r hr2 => ?_)⟩
      by_cases e : r = m
      · subst e
        rw [pk_us]
        exact ⟨hd, h1⟩
      · rw [pk_un e]
        exact ⟨(hr r (by omega)).1, sj_Row_k (hr r (by omega)).2 (fun x hx => h2 _ (by omega))⟩
    · unfold wpY_store
      dsimp only
      refine sy_size (r := 20) (by omega) hD ?_
      exact pk_eq (sj_n d) 0 (fun z => absurd z hn) (fun _ => pk_lt m 20 (fun z => absurd z (by omega)) (fun _ => ⟨rfl, sj_rel hm hd hD hr⟩))
/-- the records behind q, up to row i, moved one down -/
def sj_mv (st : Nat → Int32) (q i r : Nat) : Int32 := if q ≤ r ∧ r < i then st (r + 1) else st r
theorem sx_rem_l {post : Int32 → SX → Prop} {m q : Nat} (hm : m ≤ 20) (hq : q < m) {d t w : Int32} {st : Nat → Int32} (hp : ∀ st' : Nat → Int32, (∀ r, r < m → st' r = sj_mv st q (m - 1) r) → post (nI (m - 1)) (nI (m - 1), d, t, w, st')) : ∀ (e i : Nat) (st' : Nat → Int32), i + e = m → q < i → (∀ r, r < m → st' r = sj_mv st q (i - 1) r) → wX_remove_14 post (nI m) d t w (e + 1) (nI i) st' := by
  intro e
  induction e with
  | zero =>
    intro i st' hi hqi h1
    obtain rfl : i = m := by omega
    exact pk_le i i (fun _ => nm_r (show nI i - 1 = nI (i - 1) from pk_sub (a := i) (b := 1) (by omega)) (hp st' h1)) (fun h => absurd h (by omega))
  | succ e ih =>
    intro i st' hi hqi h1
    refine pk_le m i (fun h => absurd h (by omega)) (fun _ => ⟨vp_in_nI (by omega) (by omega), ?_⟩)
    rw [show nI i - 1 = nI (i - 1) from pk_sub (a := i) (b := 1) (by omega)]
    refine ⟨vp_in_nI (by omega) (by omega), ?_⟩
    rw [nI_clamp (n := i) (by omega), nI_clamp (n := i - 1) (by omega)]
    refine nm_e (nm_r (nI_1 i) (ih (i + 1) _ (by omega) (by omega) (fun r hr => ?_)))
    by_cases e : r = i - 1
    · rw [e, pk_us, h1 i (by omega)]
      unfold sj_mv
      rw [if_neg (by omega), if_pos (by omega), show i - 1 + 1 = i by omega]
    · rw [pk_un e, h1 r hr]
      unfold sj_mv
      by_cases c : q ≤ r ∧ r < i - 1
      · rw [if_pos c, if_pos (by omega)]
      · rw [if_neg c, if_neg (by omega)]
theorem sy_rem_l {post : Int32 → SY → Prop} {m q : Nat} (hm : m ≤ 20) (hq : q < m) {t w d : Int32} {st lb : Nat → Int32} (hp : ∀ ai' : Nat → Int32, sj_Row ai' 20 d → (∀ r, r < m → sj_Row ai' r (sj_mv st q (m - 1) r)) → post (nI (m - 1)) (nI (m - 1), t, w, ai', lb)) : ∀ (e i : Nat) (ai' : Nat → Int32), i + e = m - 1 → q ≤ i → sj_Row ai' 20 d → (∀ r, r < m → sj_Row ai' r (sj_mv st q i r)) → wY_remove_12 post (e + 1) (nI i) (nI m) t w ai' lb := by
  have em : nI m - 1 = nI (m - 1) := pk_sub (a := m) (b := 1) (by omega)
  intro e
  induction e with
  | zero =>
    intro i ai' hi hqi hD h1
    obtain rfl : i = m - 1 := by omega
    exact pk_le (m - 1) (m - 1) (fun _ => nm_r em (hp ai' hD h1)) (fun h => absurd h (by omega)) em
  | succ e ih =>
    intro i ai' hi hqi hD h1
    refine pk_le (m - 1) i (fun h => absurd h (by omega)) (fun _ => pk_le 19 i (fun h => absurd h (by omega)) (fun _ => ?_)) em
    rw [nI_1 i]
    refine sy_copy (r := i + 1) (q := i) (by omega) (by omega) (by omega) (h1 (i + 1) (by omega)) (fun a2 h2 h3 => ?_)
    refine nm_e (ih (i + 1) _ (by omega) (by omega) (sj_Row_k hD (fun x hx => h3 _ (by omega))) (fun r hr => ?_))
    by_cases e : r = i
    · subst e
      have e2 : sj_mv st q (r + 1) r = sj_mv st q r (r + 1) := by
        unfold sj_mv
        rw [if_pos (by omega), if_neg (by omega)]
      rw [e2]; exact h2
    · have e2 : sj_mv st q (i + 1) r = sj_mv st q i r := by
        unfold sj_mv
        by_cases c : q ≤ r ∧ r < i
        · rw [if_pos c, if_pos (by omega)]
        · rw [if_neg c, if_neg (by omega)]
      rw [e2]
      exact sj_Row_k (h1 r hr) (fun x hx => h3 _ (by omega))
theorem i_vc_remove {k : Nat} {u : SX} {v : SY} (I : i_Rel k u v) (hk : k + 3 ≤ 1536) (v1 : Int32) : wpX_remove (fun r u' => wpY_remove (fun r' v' => r' = r ∧ i_Rel (k + 3) u' v') v v1) u v1 := by
  obtain ⟨m, d, t, w, st, ai, lb, hm, rfl, rfl, ⟨hd, hD⟩, hr⟩ := I
  unfold wpX_remove
  dsimp only
  rcases sj_two v1 (n := m) (by omega) with h | ⟨j, hj, rfl⟩
  · refine sx_rec_no h (br_t rfl ?_)
    unfold wpY_remove
    dsimp only
    exact sy_bad_no h (br_f (by decide) ⟨rfl, sj_rel hm hd hD hr⟩)
  · refine sx_rec_ok hm hj (br_f (by decide) (nm_r (nI_1 j) ⟨m - (j + 1) + 1, ?_⟩))
    have mv0 : ∀ r, sj_mv st j j r = st r := fun r => by unfold sj_mv; rw [if_neg (by omega)]
    refine sx_rem_l (q := j) (st := st) hm hj (fun st' h1 => ?_) (m - (j + 1)) (j + 1) st (by omega) (by omega) (fun r _ => (mv0 r).symm)
    unfold wpY_remove
    dsimp only
    refine sy_bad_ok hm hj (br_t rfl ⟨m - 1 - j + 1, ?_⟩)
    refine sy_rem_l (q := j) (st := st) (d := d) hm hj (fun ai' h2 h3 => ⟨rfl, sj_rel (by omega) hd h2 (fun r hr2 => ?_)⟩) (m - 1 - j) j ai (by omega) (by omega) hD (fun r hr2 => by rw [mv0 r]; exact (hr r hr2).2)
    rw [h1 r (by omega)]
    refine ⟨?_, h3 r (by omega)⟩
    unfold sj_mv
    by_cases c : j ≤ r ∧ r < m - 1
    · rw [if_pos c]; exact (hr (r + 1) (by omega)).1
    · rw [if_neg c]; exact (hr r (by omega)).1
theorem i_vc_threshold {k : Nat} {u : SX} {v : SY} (I : i_Rel k u v) (hk : k + 3 ≤ 1536) (v1 : Int32) (v2 : Int32) : wpX_threshold (fun r u' => wpY_threshold (fun r' v' => r' = r ∧ i_Rel (k + 3) u' v') v v1 v2) u v1 v2 := by
  obtain ⟨m, d, t, w, st, ai, lb, hm, rfl, rfl, ⟨hd, hD⟩, hr⟩ := I
  unfold wpX_threshold wpX_isThresholdPart
  dsimp only
  have R : ∀ a b : Int32, i_Rel (k + 3) (nI m, d, a, b, st) (nI m, a, b, ai, lb) := fun a b => sj_rel hm hd hD hr
  by_cases a1 : v1 < 1
  · exact br_t a1 (br_t rfl (br_t a1 ⟨rfl, R t w⟩))
  refine br_f a1 ?_
  by_cases a2 : 12 < v1
  · exact br_t a2 (br_t rfl (br_f a1 (br_t a2 ⟨rfl, R t w⟩)))
  refine br_f a2 (br_f (by decide) ?_)
  by_cases a3 : v2 < 1
  · exact br_t a3 (br_t rfl (br_f a1 (br_f a2 (br_t a3 ⟨rfl, R t w⟩))))
  refine br_f a3 ?_
  by_cases a4 : 12 < v2
  · exact br_t a4 (br_t rfl (br_f a1 (br_f a2 (br_f a3 (br_f (Int32.not_le.mpr a4) ⟨rfl, R t w⟩)))))
  refine br_f a4 (br_f (by decide) ?_)
  by_cases a5 : v1 ≤ v2
  · exact br_t a5 (br_f a1 (br_f a2 (br_f a3 (br_t (Int32.not_lt.mp a4) (br_t a5 ⟨rfl, R v1 v2⟩)))))
  · exact br_f a5 (br_f a1 (br_f a2 (br_f a3 (br_t (Int32.not_lt.mp a4) (br_f a5 ⟨rfl, R t w⟩)))))
end
section
/-! the questions, but for the groups -/
theorem i_vc_records {k : Nat} {u : SX} {v : SY} (I : i_Rel k u v) (hk : k + 3 ≤ 1536) : wpX_records (fun r => wpY_records (fun r' => r' = r ∧ i_Rel (k + 3) u v) v) u := by
  obtain ⟨m, d, t, w, st, ai, lb, hm, rfl, rfl, ⟨hd, hD⟩, hr⟩ := I
  exact ⟨rfl, sj_rel hm hd hD hr⟩
theorem i_vc_size {k : Nat} {u : SX} {v : SY} (I : i_Rel k u v) (hk : k + 3 ≤ 1536) (v1 : Int32) : wpX_size (fun r => wpY_size (fun r' => r' = r ∧ i_Rel (k + 3) u v) v v1) u v1 := by
  obtain ⟨m, d, t, w, st, ai, lb, hm, rfl, rfl, ⟨hd, hD⟩, hr⟩ := I
  have R : i_Rel (k + 3) (nI m, d, t, w, st) (nI m, t, w, ai, lb) := sj_rel hm hd hD hr
  unfold wpX_size wpY_size
  dsimp only
  rcases sj_two v1 (n := m) (by omega) with h | ⟨j, hj, rfl⟩
  · exact sx_rec_no h (br_t rfl (sy_bad_no h (br_f (by decide) ⟨rfl, R⟩)))
  · refine sx_rec_ok hm hj (br_f (by decide) ⟨vp_in_nI (by omega) (by omega), ?_⟩)
    rw [nI_clamp (n := j) (by omega)]
    exact sx_count (sy_bad_ok hm hj (br_t rfl (sy_size (by omega) (hr j hj).2 ⟨rfl, R⟩)))
theorem i_vc_has {k : Nat} {u : SX} {v : SY} (I : i_Rel k u v) (hk : k + 3 ≤ 1536) (v1 : Int32) (v2 : Int32) : wpX_has (fun r => wpY_has (fun r' => r' = r ∧ i_Rel (k + 3) u v) v v1 v2) u v1 v2 := by
  obtain ⟨m, d, t, w, st, ai, lb, hm, rfl, rfl, ⟨hd, hD⟩, hr⟩ := I
  have R : i_Rel (k + 3) (nI m, d, t, w, st) (nI m, t, w, ai, lb) := sj_rel hm hd hD hr
  unfold wpX_has wpY_has
  dsimp only
  rcases sj_two v1 (n := m) (by omega) with h | ⟨j, hj, rfl⟩
  · exact sx_rec_no h (br_t rfl (sy_bad_no h (br_f (by decide) ⟨rfl, R⟩)))
  · rcases sj_two v2 (n := 30) (by omega) with h | ⟨x, hx, rfl⟩
    · exact sx_rec_ok hm hj (br_f (by decide) (sx_tok_no h (br_t rfl (sy_bad_ok hm hj (br_t rfl (sy_tok_no h (br_f (by decide) ⟨rfl, R⟩)))))))
    · refine sx_rec_ok hm hj (br_f (by decide) (sx_tok_ok hx (br_f (by decide) ⟨vp_in_nI (by omega) (by omega), ?_⟩)))
      rw [nI_clamp (n := j) (by omega)]
      refine sx_in (by omega) (sj_br (fun hb => ?_) (fun hb => ?_))
      · exact sy_bad_ok hm hj (br_t rfl (sy_tok_ok hx (br_t rfl (sy_rd (by omega) hx (hr j hj).2 (sj_ix j x) (fun _ => ⟨rfl, R⟩) (fun z => absurd (hb.symm.trans z) (by decide))))))
      · exact sy_bad_ok hm hj (br_t rfl (sy_tok_ok hx (br_t rfl (sy_rd (by omega) hx (hr j hj).2 (sj_ix j x) (fun z => absurd (hb.symm.trans z) (by decide)) (fun _ => ⟨rfl, R⟩)))))
theorem sx_freq_l {post : Int32 → Prop} {m x : Nat} (hm : m ≤ 20) (hx : x < 30) {d t w : Int32} {st : Nat → Int32} (hp : post (nI (sj_c (fun r => bt (st r) x) m))) : ∀ e i : Nat, i + e = m → wX_frequency_13 post (nI x) (nI m) d t w st (e + 1) (nI (sj_c (fun r => bt (st r) x) i)) (nI i) := by
  intro e
  induction e with
  | zero =>
    intro i hi
    obtain rfl : i = m := by omega
    exact pk_le i i (fun _ => hp) (fun h => absurd h (by omega))
  | succ e ih =>
    intro i hi
    refine pk_le m i (fun h => absurd h (by omega)) (fun _ => ⟨vp_in_nI (by omega) (by omega), ?_⟩)
    rw [nI_clamp (n := i) (by omega)]
    refine sx_in (by omega) (sj_br (fun hb => ?_) (fun hb => ?_))
    · refine nm_r (nI_1 i) ?_
      rw [← sj_c_f (f := fun r => bt (st r) x) hb]
      exact ih (i + 1) (by omega)
    · refine nm_r (e' := nI (sj_c (fun r => bt (st r) x) (i + 1))) ?_ (nm_r (nI_1 i) (ih (i + 1) (by omega)))
      rw [sj_c_t (f := fun r => bt (st r) x) hb]
      exact nI_1 _
theorem sy_freq_l {post : Int32 → Prop} {m x : Nat} (hm : m ≤ 20) (hx : x < 30) {t w : Int32} {st ai lb : Nat → Int32} (hr : ∀ r, r < m → sj_Row ai r (st r)) (hp : post (nI (sj_c (fun r => bt (st r) x) m))) : ∀ e i : Nat, i + e = m → wY_frequency_14 post (nI x) (nI m) t w ai lb (e + 1) (nI (sj_c (fun r => bt (st r) x) i)) (nI i) := by
  intro e
  induction e with
  | zero =>
    intro i hi
    obtain rfl : i = m := by omega
    exact pk_le i i (fun _ => hp) (fun h => absurd h (by omega))
  | succ e ih =>
    intro i hi
    refine pk_le m i (fun h => absurd h (by omega)) (fun _ => pk_le 20 i (fun h => absurd h (by omega)) (fun _ => sy_rd (by omega) hx (hr i (by omega)) (sj_ix i x) (fun hb => ?_) (fun hb => ?_)))
    · refine nm_r (nI_1 i) ?_
      rw [← sj_c_f (f := fun r => bt (st r) x) hb]
      exact ih (i + 1) (by omega)
    · refine nm_r (e' := nI (sj_c (fun r => bt (st r) x) (i + 1))) ?_ (nm_r (nI_1 i) (ih (i + 1) (by omega)))
      rw [sj_c_t (f := fun r => bt (st r) x) hb]
      exact nI_1 _
theorem i_vc_frequency {k : Nat} {u : SX} {v : SY} (I : i_Rel k u v) (hk : k + 3 ≤ 1536) (v1 : Int32) : wpX_frequency (fun r => wpY_frequency (fun r' => r' = r ∧ i_Rel (k + 3) u v) v v1) u v1 := by
  obtain ⟨m, d, t, w, st, ai, lb, hm, rfl, rfl, ⟨hd, hD⟩, hr⟩ := I
  have R : i_Rel (k + 3) (nI m, d, t, w, st) (nI m, t, w, ai, lb) := sj_rel hm hd hD hr
  unfold wpX_frequency wpY_frequency
  dsimp only
  rcases sj_two v1 (n := 30) (by omega) with h | ⟨x, hx, rfl⟩
  · exact sx_tok_no h (br_t rfl (sy_tok_no h (br_f (by decide) ⟨rfl, R⟩)))
  · refine sx_tok_ok hx (br_f (by decide) ⟨m + 1, sx_freq_l hm hx ?_ m 0 (by omega)⟩)
    exact sy_tok_ok hx (br_t rfl ⟨m + 1, sy_freq_l hm hx (fun r h => (hr r h).2) ⟨rfl, R⟩ m 0 (by omega)⟩)
theorem i_vc_common {k : Nat} {u : SX} {v : SY} (I : i_Rel k u v) (hk : k + 3 ≤ 1536) (v1 : Int32) (v2 : Int32) : wpX_common (fun r => wpY_common (fun r' => r' = r ∧ i_Rel (k + 3) u v) v v1 v2) u v1 v2 := by
  obtain ⟨m, d, t, w, st, ai, lb, hm, rfl, rfl, ⟨hd, hD⟩, hr⟩ := I
  have R : i_Rel (k + 3) (nI m, d, t, w, st) (nI m, t, w, ai, lb) := sj_rel hm hd hD hr
  unfold wpX_common wpY_common
  dsimp only
  rcases sj_two v1 (n := m) (by omega) with h | ⟨j, hj, rfl⟩
  · exact sx_rec_no h (br_t rfl (sy_bad_no h (br_f (by decide) ⟨rfl, R⟩)))
  · rcases sj_two v2 (n := m) (by omega) with h | ⟨x, hx, rfl⟩
    · exact sx_rec_ok hm hj (br_f (by decide) (sx_rec_no h (br_t rfl (sy_bad_ok hm hj (br_t rfl (sy_bad_no h (br_f (by decide) ⟨rfl, R⟩)))))))
    · refine sx_rec_ok hm hj (br_f (by decide) (sx_rec_ok hm hx (br_f (by decide) ⟨vp_in_nI (by omega) (by omega), vp_in_nI (by omega) (by omega), ?_⟩)))
      rw [nI_clamp (n := j) (by omega), nI_clamp (n := x) (by omega)]
      exact sx_count (sy_bad_ok hm hj (br_t rfl (sy_bad_ok hm hx (br_t rfl (sy_both (by omega) (by omega) (hr j hj).2 (hr x hx).2 ⟨rfl, R⟩)))))
theorem i_vc_similar {k : Nat} {u : SX} {v : SY} (I : i_Rel k u v) (hk : k + 3 ≤ 1536) (v1 : Int32) (v2 : Int32) : wpX_similar (fun r => wpY_similar (fun r' => r' = r ∧ i_Rel (k + 3) u v) v v1 v2) u v1 v2 := by
  obtain ⟨m, d, t, w, st, ai, lb, hm, rfl, rfl, ⟨hd, hD⟩, hr⟩ := I
  have R : i_Rel (k + 3) (nI m, d, t, w, st) (nI m, t, w, ai, lb) := sj_rel hm hd hD hr
  unfold wpX_similar wpY_similar
  dsimp only
  rcases sj_two v1 (n := m) (by omega) with h | ⟨j, hj, rfl⟩
  · exact sx_rec_no h (br_t rfl (sy_bad_no h (br_f (by decide) ⟨rfl, R⟩)))
  · rcases sj_two v2 (n := m) (by omega) with h | ⟨x, hx, rfl⟩
    · exact sx_rec_ok hm hj (br_f (by decide) (sx_rec_no h (br_t rfl (sy_bad_ok hm hj (br_t rfl (sy_bad_no h (br_f (by decide) ⟨rfl, R⟩)))))))
    · refine sx_rec_ok hm hj (br_f (by decide) (sx_rec_ok hm hx (br_f (by decide) ⟨vp_in_nI (by omega) (by omega), vp_in_nI (by omega) (by omega), ?_⟩)))
      rw [nI_clamp (n := j) (by omega), nI_clamp (n := x) (by omega)]
      refine sx_sim (sj_br (fun hb => ?_) (fun hb => ?_))
      · exact sy_bad_ok hm hj (br_t rfl (sy_bad_ok hm hx (br_t rfl (sy_alike (by omega) (by omega) (hr j hj).2 (hr x hx).2 (sj_br (fun _ => ⟨rfl, R⟩) (fun z => absurd (hb.symm.trans z) (by decide)))))))
      · exact sy_bad_ok hm hj (br_t rfl (sy_bad_ok hm hx (br_t rfl (sy_alike (by omega) (by omega) (hr j hj).2 (hr x hx).2 (sj_br (fun z => absurd (hb.symm.trans z) (by decide)) (fun _ => ⟨rfl, R⟩))))))
/-- record j is another than q and similar to it -/
def sj_T (t w : Int32) (st : Nat → Int32) (q j : Nat) : Bool := sj_sim t w (st q) (st j) && !decide (j = q)
theorem sj_T_comm (t w : Int32) (st : Nat → Int32) (a b : Nat) : sj_T t w st a b = sj_T t w st b a := by
  unfold sj_T
  rw [sj_sim_comm, show decide (b = a) = decide (a = b) from decide_eq_decide.mpr ⟨Eq.symm, Eq.symm⟩]
theorem sj_T_self (t w : Int32) (st : Nat → Int32) (a : Nat) : sj_T t w st a a = false := by
  unfold sj_T
  rw [decide_eq_true rfl, Bool.not_true, Bool.and_false]
theorem sx_pairs_l {post : Int32 → Prop} {m : Nat} (hm : m ≤ 20) {d t w : Int32} {st : Nat → Int32} (hp : post (nI (sj_s (fun a => sj_c (sj_T t w st a) m) m / 2))) : ∀ e i : Nat, i + e = m → wX_pairs_4 post (nI m) d t w st (e + 1) (nI (sj_s (fun a => sj_c (sj_T t w st a) m) i)) (nI i) := by
  intro e
  induction e with
  | zero =>
    intro i hi
    obtain rfl : i = m := by omega
    refine pk_le i i (fun _ => ⟨by decide, ?_⟩) (fun h => absurd h (by omega))
    have hs : sj_s (fun a => sj_c (sj_T t w st a) i) i ≤ i * i := sj_s_le (fun j _ => sj_c_le _ i)
    have hs2 : i * i ≤ 20 * 20 := Nat.mul_le_mul hm hm
    rw [show nI (sj_s (fun a => sj_c (sj_T t w st a) i) i) / 2 = nI (sj_s (fun a => sj_c (sj_T t w st a) i) i / 2) from pk_div (d := 2) (by omega) (by omega) (by omega)]
    exact hp
  | succ e ih =>
    intro i hi
    refine pk_le m i (fun h => absurd h (by omega)) (fun _ => sx_oth hm (by omega) (fun R hR => sx_count ?_))
    rw [sj_M_n hm hR]
    exact nm_r (nI_add _ _) (nm_r (nI_1 i) (ih (i + 1) (by omega)))
theorem sy_pairs_in {post : Int32 → Prop} {J : Int32 → Int32 → Prop} {m a c : Nat} (hm : m ≤ 20) (ha : a < m) {t w : Int32} {st ai lb : Nat → Int32} (hr : ∀ r, r < m → sj_Row ai r (st r)) (hJ : J (nI (c + sj_c (fun b => decide (a < b) && sj_T t w st a b) m)) (nI (a + 1))) : ∀ e i : Nat, i + e = m → a < i → wY_pairs_22 post J (nI a) (nI m) t w ai lb (e + 1) (nI (c + sj_c (fun b => decide (a < b) && sj_T t w st a b) i)) (nI i) := by
  intro e
  induction e with
  | zero =>
    intro i hi hai
    obtain rfl : i = m := by omega
    exact pk_le i i (fun _ => nm_r (nI_1 a) hJ) (fun h => absurd h (by omega))
  | succ e ih =>
    intro i hi hai
    have ei : (decide (a < i) && sj_T t w st a i) = sj_sim t w (st a) (st i) := by
      unfold sj_T
      rw [decide_eq_true hai, decide_eq_false (by omega), Bool.true_and, Bool.not_false, Bool.and_true]
    refine pk_le m i (fun h => absurd h (by omega)) (fun _ => pk_le 20 i (fun h => absurd h (by omega)) (fun _ => sy_alike (by omega) (by omega) (hr a ha) (hr i (by omega)) (sj_br (fun hb => ?_) (fun hb => ?_))))
    · refine nm_r (nI_1 i) ?_
      rw [← sj_c_f (f := fun b => decide (a < b) && sj_T t w st a b) (n := i) (ei.trans hb)]
      exact ih (i + 1) (by omega) (by omega)
    · refine nm_r (e' := nI (c + sj_c (fun b => decide (a < b) && sj_T t w st a b) (i + 1))) ?_ (nm_r (nI_1 i) (ih (i + 1) (by omega) (by omega)))
      rw [sj_c_t (f := fun b => decide (a < b) && sj_T t w st a b) (n := i) (ei.trans hb)]
      exact nI_1 _
theorem sy_pairs_l {post : Int32 → Prop} {m : Nat} (hm : m ≤ 20) {t w : Int32} {st ai lb : Nat → Int32} (hr : ∀ r, r < m → sj_Row ai r (st r)) (hp : post (nI (sj_s (fun a => sj_c (fun b => decide (a < b) && sj_T t w st a b) m) m))) : ∀ e i : Nat, i + e = m → wY_pairs_4 post (nI m) t w ai lb (e + 1) (nI (sj_s (fun a => sj_c (fun b => decide (a < b) && sj_T t w st a b) m) i)) (nI i) := by
  intro e
  induction e with
  | zero =>
    intro i hi
    obtain rfl : i = m := by omega
    exact pk_le i i (fun _ => hp) (fun h => absurd h (by omega))
  | succ e ih =>
    intro i hi
    refine pk_le m i (fun h => absurd h (by omega)) (fun _ => pk_le 20 i (fun h => absurd h (by omega)) (fun _ => nm_r (nI_1 i) ⟨m - (i + 1) + 1, ?_⟩))
    have z : sj_c (fun b => decide (i < b) && sj_T t w st i b) (i + 1) = 0 := sj_c_zero (fun j hj => by
      show (decide (i < j) && sj_T t w st i j) = false
      rw [decide_eq_false (by omega), Bool.false_and])
    have g := sy_pairs_in (post := post) (J := wY_pairs_4 post (nI m) t w ai lb (e + 1)) (lb := lb) (a := i) (c := sj_s (fun a => sj_c (fun b => decide (a < b) && sj_T t w st a b) m) i) hm (by omega) hr (ih (i + 1) (by omega)) (m - (i + 1)) (i + 1) (by omega) (by omega)
    rw [z] at g
    exact g
theorem i_vc_pairs {k : Nat} {u : SX} {v : SY} (I : i_Rel k u v) (hk : k + 3 ≤ 1536) : wpX_pairs (fun r => wpY_pairs (fun r' => r' = r ∧ i_Rel (k + 3) u v) v) u := by
  obtain ⟨m, d, t, w, st, ai, lb, hm, rfl, rfl, ⟨hd, hD⟩, hr⟩ := I
  have R : i_Rel (k + 3) (nI m, d, t, w, st) (nI m, t, w, ai, lb) := sj_rel hm hd hD hr
  unfold wpX_pairs wpY_pairs
  dsimp only
  refine ⟨m + 1, sx_pairs_l hm ?_ m 0 (by omega)⟩
  refine ⟨m + 1, sy_pairs_l (st := st) hm (fun r h => (hr r h).2) ⟨?_, R⟩ m 0 (by omega)⟩
  rw [sj_pairs (sj_T t w st) (sj_T_comm t w st) (sj_T_self t w st) m, Nat.mul_div_cancel_left _ (by omega)]
theorem sy_deg_l {post : Int32 → Prop} {m q : Nat} (hm : m ≤ 20) (hq : q < m) {t w : Int32} {st ai lb : Nat → Int32} (hr : ∀ r, r < m → sj_Row ai r (st r)) (hp : post (nI (sj_c (sj_T t w st q) m))) : ∀ e i : Nat, i + e = m → wY_degree_14 post (nI q) (nI m) t w ai lb (e + 1) (nI (sj_c (sj_T t w st q) i)) (nI i) := by
  intro e
  induction e with
  | zero =>
    intro i hi
    obtain rfl : i = m := by omega
    exact pk_le i i (fun _ => hp) (fun h => absurd h (by omega))
  | succ e ih =>
    intro i hi
    refine pk_le m i (fun h => absurd h (by omega)) (fun _ => pk_le 20 i (fun h => absurd h (by omega)) (fun _ => pk_eq i q (fun h => ?_) (fun h => sy_alike (by omega) (by omega) (hr i (by omega)) (hr q hq) (sj_br (fun hb => ?_) (fun hb => ?_)))))
    · refine nm_r (nI_1 i) ?_
      rw [← sj_c_f (f := sj_T t w st q) (n := i) (by rw [h]; exact sj_T_self t w st q)]
      exact ih (i + 1) (by omega)
    · refine nm_r (nI_1 i) ?_
      rw [← sj_c_f (f := sj_T t w st q) (n := i) (by unfold sj_T; rw [sj_sim_comm, hb, Bool.false_and])]
      exact ih (i + 1) (by omega)
    · refine nm_r (e' := nI (sj_c (sj_T t w st q) (i + 1))) ?_ (nm_r (nI_1 i) (ih (i + 1) (by omega)))
      rw [sj_c_t (f := sj_T t w st q) (n := i) (by unfold sj_T; rw [sj_sim_comm, hb, decide_eq_false h]; rfl)]
      exact nI_1 _
theorem i_vc_degree {k : Nat} {u : SX} {v : SY} (I : i_Rel k u v) (hk : k + 3 ≤ 1536) (v1 : Int32) : wpX_degree (fun r => wpY_degree (fun r' => r' = r ∧ i_Rel (k + 3) u v) v v1) u v1 := by
  obtain ⟨m, d, t, w, st, ai, lb, hm, rfl, rfl, ⟨hd, hD⟩, hr⟩ := I
  have R : i_Rel (k + 3) (nI m, d, t, w, st) (nI m, t, w, ai, lb) := sj_rel hm hd hD hr
  unfold wpX_degree wpY_degree
  dsimp only
  rcases sj_two v1 (n := m) (by omega) with h | ⟨j, hj, rfl⟩
  · exact sx_rec_no h (br_t rfl (sy_bad_no h (br_f (by decide) ⟨rfl, R⟩)))
  · refine sx_rec_ok hm hj (br_f (by decide) (sx_oth hm hj (fun Q hQ => sx_count ?_)))
    rw [sj_M_n hm hQ]
    exact sy_bad_ok hm hj (br_t rfl ⟨m + 1, sy_deg_l (st := st) hm hj (fun r h => (hr r h).2) ⟨rfl, R⟩ m 0 (by omega)⟩)
/-- both walks in step: one answer for both -/
theorem sj_part {m q : Nat} (hm : m ≤ 20) (hq : q < m) {d t w p Q : Int32} {st ai lb : Nat → Int32} (hr : ∀ r, r < m → sj_Row ai r (st r)) (hQ : sj_M m (sj_T t w st q) Q) : ∀ (e i : Nat) (c : Int32), i + e = m → ∃ r : Int32, (∀ post : Int32 → Prop, post r → wX_partner_22 post p Q (nI m) d t w st (e + 1) c (nI i)) ∧ (∀ post : Int32 → Prop, post r → wY_partner_15 post (nI q) p (nI m) t w ai lb (e + 1) c (nI i)) := by
  intro e
  induction e with
  | zero =>
    intro i c hi
    obtain rfl : i = m := by omega
    exact ⟨-2, fun post hp => pk_le i i (fun _ => hp) (fun h => absurd h (by omega)), fun post hp => pk_le i i (fun _ => hp) (fun h => absurd h (by omega))⟩
  | succ e ih =>
    intro i c hi
    have hb := sj_M_b hQ (j := i) (by omega)
    cases hT : sj_T t w st q i
    · rw [hT] at hb
      obtain ⟨r, hX, hY⟩ := ih (i + 1) c (by omega)
      refine ⟨r, fun post hp => ?_, fun post hp => ?_⟩
      · refine pk_le m i (fun h => absurd h (by omega)) (fun _ => sx_in (by omega) (sj_br (fun _ => nm_r (nI_1 i) (hX post hp)) (fun z => absurd (hb.symm.trans z) (by decide))))
      · refine pk_le m i (fun h => absurd h (by omega)) (fun _ => pk_le 20 i (fun h => absurd h (by omega)) (fun _ => pk_eq i q (fun h => nm_r (nI_1 i) (hY post hp)) (fun h => sy_alike (by omega) (by omega) (hr i (by omega)) (hr q hq) (sj_br (fun _ => nm_r (nI_1 i) (hY post hp)) (fun z => ?_)))))
        unfold sj_T at hT
        rw [sj_sim_comm, z, decide_eq_false h] at hT
        exact absurd hT (by decide)
    · rw [hT] at hb
      unfold sj_T at hT
      have h1 : sj_sim t w (st i) (st q) = true := by rw [sj_sim_comm]; exact (Bool.and_eq_true_iff.mp hT).1
      have h2 : i ≠ q := fun z => by
        rw [decide_eq_true z, Bool.not_true, Bool.and_false] at hT
        exact absurd hT (by decide)
      by_cases hc : c = p
      · refine ⟨nI i, fun post hp => ?_, fun post hp => ?_⟩
        · exact pk_le m i (fun h => absurd h (by omega)) (fun _ => sx_in (by omega) (sj_br (fun z => absurd (hb.symm.trans z) (by decide)) (fun _ => br_t hc hp)))
        · exact pk_le m i (fun h => absurd h (by omega)) (fun _ => pk_le 20 i (fun h => absurd h (by omega)) (fun _ => pk_eq i q (fun h => absurd h h2) (fun h => sy_alike (by omega) (by omega) (hr i (by omega)) (hr q hq) (sj_br (fun z => absurd (h1.symm.trans z) (by decide)) (fun _ => br_t hc hp)))))
      · obtain ⟨r, hX, hY⟩ := ih (i + 1) (c + 1) (by omega)
        refine ⟨r, fun post hp => ?_, fun post hp => ?_⟩
        · exact pk_le m i (fun h => absurd h (by omega)) (fun _ => sx_in (by omega) (sj_br (fun z => absurd (hb.symm.trans z) (by decide)) (fun _ => br_f hc (nm_e (nm_r (nI_1 i) (hX post hp))))))
        · exact pk_le m i (fun h => absurd h (by omega)) (fun _ => pk_le 20 i (fun h => absurd h (by omega)) (fun _ => pk_eq i q (fun h => absurd h h2) (fun h => sy_alike (by omega) (by omega) (hr i (by omega)) (hr q hq) (sj_br (fun z => absurd (h1.symm.trans z) (by decide)) (fun _ => br_f hc (nm_e (nm_r (nI_1 i) (hY post hp))))))))
theorem i_vc_partner {k : Nat} {u : SX} {v : SY} (I : i_Rel k u v) (hk : k + 3 ≤ 1536) (v1 : Int32) (v2 : Int32) : wpX_partner (fun r => wpY_partner (fun r' => r' = r ∧ i_Rel (k + 3) u v) v v1 v2) u v1 v2 := by
  obtain ⟨m, d, t, w, st, ai, lb, hm, rfl, rfl, ⟨hd, hD⟩, hr⟩ := I
  have R : i_Rel (k + 3) (nI m, d, t, w, st) (nI m, t, w, ai, lb) := sj_rel hm hd hD hr
  unfold wpX_partner wpY_partner
  dsimp only
  rcases sj_two v1 (n := m) (by omega) with h | ⟨j, hj, rfl⟩
  · exact sx_rec_no h (br_t rfl (sy_bad_no h (br_f (by decide) ⟨rfl, R⟩)))
  · refine sx_rec_ok hm hj (br_f (by decide) (sx_oth hm hj (fun Q hQ => ?_)))
    obtain ⟨r, hX, hY⟩ := sj_part (d := d) (p := v2) (lb := lb) hm hj (fun r h => (hr r h).2) hQ m 0 0 (by omega)
    exact ⟨m + 1, hX _ (sy_bad_ok hm hj (br_t rfl ⟨m + 1, hY _ ⟨rfl, R⟩⟩))⟩
end
section
/-! nearest, matches, match, containing -/
theorem sj_near {m q : Nat} (hm : m ≤ 20) (hq : q < m) {d t w : Int32} {st ai lb : Nat → Int32} (hr : ∀ r, r < m → sj_Row ai r (st r)) : ∀ (e i : Nat) (b x y : Int32), i + e = m → ∃ r : Int32, (∀ post : Int32 → Prop, post r → wX_nearest_21 post (nI q) (nI m) d t w st (e + 1) b x y (nI i)) ∧ (∀ post : Int32 → Prop, post r → wY_nearest_21 post (nI q) (nI m) t w ai lb (e + 1) b x y (nI i)) := by
  intro e
  induction e with
  | zero =>
    intro i b x y hi
    obtain rfl : i = m := by omega
    exact ⟨b, fun post hp => pk_le i i (fun _ => hp) (fun h => absurd h (by omega)), fun post hp => pk_le i i (fun _ => hp) (fun h => absurd h (by omega))⟩
  | succ e ih =>
    intro i b x y hi
    by_cases hiq : i = q
    · obtain ⟨r, hX, hY⟩ := ih (i + 1) b x y (by omega)
      refine ⟨r, fun post hp => ?_, fun post hp => ?_⟩
      · exact pk_le m i (fun h => absurd h (by omega)) (fun _ => pk_eq i q (fun _ => nm_r (nI_1 i) (hX post hp)) (fun h => absurd hiq h))
      · exact pk_le m i (fun h => absurd h (by omega)) (fun _ => pk_le 20 i (fun h => absurd h (by omega)) (fun _ => pk_eq i q (fun _ => nm_r (nI_1 i) (hY post hp)) (fun h => absurd hiq h)))
    · have viq : vp_in (nI q) 20 := vp_in_nI (by omega) (by omega)
      have vii : vp_in (nI i) 20 := vp_in_nI (by omega) (by omega)
      have go : ∀ A B : Int32 → Int32 → Prop,
          (∀ post : Int32 → Prop, A (nI (sj_n (st q &&& st i))) (nI (sj_n (st q ||| st i))) → wpX_countOf (fun r_12 => vp_in (nI q) 20 ∧ (vp_in (nI i) 20 ∧ wpX_countOf (fun r_15 => A r_12 r_15) (st (nI q).toNatClampNeg ||| st (nI i).toNatClampNeg))) (st (nI q).toNatClampNeg &&& st (nI i).toNatClampNeg)) := by
        intro A B post hA
        rw [nI_clamp (n := q) (by omega), nI_clamp (n := i) (by omega)]
        exact sx_count ⟨viq, vii, sx_count hA⟩
      have gy : ∀ B : Int32 → Int32 → Prop, B (nI (sj_n (st q &&& st i))) (nI (sj_n (st q ||| st i))) → wpY_both (fun r_12 => wpY_either (fun r_18 => B r_12 r_18) (nI m, t, w, ai, lb) (nI i) (nI q)) (nI m, t, w, ai, lb) (nI i) (nI q) := by
        intro B hB
        rw [Int32.and_comm (st q), Int32.or_comm (st q)] at hB
        exact sy_both (by omega) (by omega) (hr i (by omega)) (hr q hq) (sy_either (by omega) (by omega) (hr i (by omega)) (hr q hq) hB)
      by_cases hnew : b < 0 ∨ ¬ nI (sj_n (st q &&& st i)) * y ≤ x * nI (sj_n (st q ||| st i))
      · obtain ⟨r, hX, hY⟩ := ih (i + 1) (nI i) (nI (sj_n (st q &&& st i))) (nI (sj_n (st q ||| st i))) (by omega)
        refine ⟨r, fun post hp => ?_, fun post hp => ?_⟩
        · refine pk_le m i (fun h => absurd h (by omega)) (fun _ => pk_eq i q (fun h => absurd h hiq) (fun _ => ⟨viq, vii, ?_⟩))
          refine go (fun r_12 r_15 => (((b < 0 → (wX_nearest_93 post (wX_nearest_21 post (nI q) (nI m) d t w st (e + 1)) (nI q) (nI i) r_12 r_15 (nI m) d t w st)) ∧ (¬ b < 0 → ((((r_12 * y) ≤ (x * r_15) → (∀ x5_19 : Int32, x5_19 = nI i + 1 → (wX_nearest_21 post (nI q) (nI m) d t w st (e + 1) b x y x5_19))) ∧ (¬ (r_12 * y) ≤ (x * r_15) → (wX_nearest_93 post (wX_nearest_21 post (nI q) (nI m) d t w st (e + 1)) (nI q) (nI i) r_12 r_15 (nI m) d t w st)))))))) (fun _ _ => True) post ?_
          have g : wX_nearest_93 post (wX_nearest_21 post (nI q) (nI m) d t w st (e + 1)) (nI q) (nI i) (nI (sj_n (st q &&& st i))) (nI (sj_n (st q ||| st i))) (nI m) d t w st := nm_r (nI_1 i) (hX post hp)
          by_cases hb : b < 0
          · exact br_t hb g
          · exact br_f hb (br_f (hnew.resolve_left hb) g)
        · refine pk_le m i (fun h => absurd h (by omega)) (fun _ => pk_le 20 i (fun h => absurd h (by omega)) (fun _ => pk_eq i q (fun h => absurd h hiq) (fun _ => ?_)))
          refine gy (fun r_12 r_18 => (((b < 0 → (wY_nearest_77 post (wY_nearest_21 post (nI q) (nI m) t w ai lb (e + 1)) (nI q) (nI i) r_12 r_18 (nI m) t w ai lb)) ∧ (¬ b < 0 → ((((r_12 * y) ≤ (x * r_18) → (∀ x5_27 : Int32, x5_27 = nI i + 1 → (wY_nearest_21 post (nI q) (nI m) t w ai lb (e + 1) b x y x5_27))) ∧ (¬ (r_12 * y) ≤ (x * r_18) → (wY_nearest_77 post (wY_nearest_21 post (nI q) (nI m) t w ai lb (e + 1)) (nI q) (nI i) r_12 r_18 (nI m) t w ai lb)))))))) ?_
          have g : wY_nearest_77 post (wY_nearest_21 post (nI q) (nI m) t w ai lb (e + 1)) (nI q) (nI i) (nI (sj_n (st q &&& st i))) (nI (sj_n (st q ||| st i))) (nI m) t w ai lb := nm_r (nI_1 i) (hY post hp)
          by_cases hb : b < 0
          · exact br_t hb g
          · exact br_f hb (br_f (hnew.resolve_left hb) g)
      · have hb : ¬ b < 0 := fun z => hnew (Or.inl z)
        have hle : nI (sj_n (st q &&& st i)) * y ≤ x * nI (sj_n (st q ||| st i)) := Classical.byContradiction (fun z => hnew (Or.inr z))
        obtain ⟨r, hX, hY⟩ := ih (i + 1) b x y (by omega)
        refine ⟨r, fun post hp => ?_, fun post hp => ?_⟩
        · refine pk_le m i (fun h => absurd h (by omega)) (fun _ => pk_eq i q (fun h => absurd h hiq) (fun _ => ⟨viq, vii, ?_⟩))
          exact go (fun r_12 r_15 => (((b < 0 → (wX_nearest_93 post (wX_nearest_21 post (nI q) (nI m) d t w st (e + 1)) (nI q) (nI i) r_12 r_15 (nI m) d t w st)) ∧ (¬ b < 0 → ((((r_12 * y) ≤ (x * r_15) → (∀ x5_19 : Int32, x5_19 = nI i + 1 → (wX_nearest_21 post (nI q) (nI m) d t w st (e + 1) b x y x5_19))) ∧ (¬ (r_12 * y) ≤ (x * r_15) → (wX_nearest_93 post (wX_nearest_21 post (nI q) (nI m) d t w st (e + 1)) (nI q) (nI i) r_12 r_15 (nI m) d t w st)))))))) (fun _ _ => True) post (br_f hb (br_t hle (nm_r (nI_1 i) (hX post hp))))
        · refine pk_le m i (fun h => absurd h (by omega)) (fun _ => pk_le 20 i (fun h => absurd h (by omega)) (fun _ => pk_eq i q (fun h => absurd h hiq) (fun _ => ?_)))
          exact gy (fun r_12 r_18 => (((b < 0 → (wY_nearest_77 post (wY_nearest_21 post (nI q) (nI m) t w ai lb (e + 1)) (nI q) (nI i) r_12 r_18 (nI m) t w ai lb)) ∧ (¬ b < 0 → ((((r_12 * y) ≤ (x * r_18) → (∀ x5_27 : Int32, x5_27 = nI i + 1 → (wY_nearest_21 post (nI q) (nI m) t w ai lb (e + 1) b x y x5_27))) ∧ (¬ (r_12 * y) ≤ (x * r_18) → (wY_nearest_77 post (wY_nearest_21 post (nI q) (nI m) t w ai lb (e + 1)) (nI q) (nI i) r_12 r_18 (nI m) t w ai lb)))))))) (br_f hb (br_t hle (nm_r (nI_1 i) (hY post hp))))
theorem i_vc_nearest {k : Nat} {u : SX} {v : SY} (I : i_Rel k u v) (hk : k + 3 ≤ 1536) (v1 : Int32) : wpX_nearest (fun r => wpY_nearest (fun r' => r' = r ∧ i_Rel (k + 3) u v) v v1) u v1 := by
  obtain ⟨m, d, t, w, st, ai, lb, hm, rfl, rfl, ⟨hd, hD⟩, hr⟩ := I
  have R : i_Rel (k + 3) (nI m, d, t, w, st) (nI m, t, w, ai, lb) := sj_rel hm hd hD hr
  unfold wpX_nearest wpY_nearest
  dsimp only
  rcases sj_two v1 (n := m) (by omega) with h | ⟨j, hj, rfl⟩
  · exact sx_rec_no h (br_t rfl (sy_bad_no h (br_f (by decide) ⟨rfl, R⟩)))
  · obtain ⟨r, hX, hY⟩ := sj_near (d := d) (t := t) (w := w) (lb := lb) hm hj (fun r h => (hr r h).2) m 0 (-2) 0 1 (by omega)
    exact sx_rec_ok hm hj (br_f (by decide) ⟨m + 1, hX _ (sy_bad_ok hm hj (br_t rfl ⟨m + 1, hY _ ⟨rfl, R⟩⟩))⟩)
theorem sy_mats_l {post : Int32 → Prop} {m : Nat} (hm : m ≤ 20) {d t w : Int32} {st ai lb : Nat → Int32} (hD : sj_Row ai 20 d) (hr : ∀ r, r < m → sj_Row ai r (st r)) (hp : post (nI (sj_c (fun j => sj_sim t w d (st j)) m))) : ∀ e i : Nat, i + e = m → wY_matches_4 post (nI m) t w ai lb (e + 1) (nI (sj_c (fun j => sj_sim t w d (st j)) i)) (nI i) := by
  intro e
  induction e with
  | zero =>
    intro i hi
    obtain rfl : i = m := by omega
    exact pk_le i i (fun _ => hp) (fun h => absurd h (by omega))
  | succ e ih =>
    intro i hi
    refine pk_le m i (fun h => absurd h (by omega)) (fun _ => pk_le 20 i (fun h => absurd h (by omega)) (fun _ => sy_alike (q := 20) (by omega) (by omega) (hr i (by omega)) hD (sj_br (fun hb => ?_) (fun hb => ?_))))
    · rw [sj_sim_comm] at hb
      refine nm_r (nI_1 i) ?_
      rw [← sj_c_f (f := fun j => sj_sim t w d (st j)) hb]
      exact ih (i + 1) (by omega)
    · rw [sj_sim_comm] at hb
      refine nm_r (e' := nI (sj_c (fun j => sj_sim t w d (st j)) (i + 1))) ?_ (nm_r (nI_1 i) (ih (i + 1) (by omega)))
      rw [sj_c_t (f := fun j => sj_sim t w d (st j)) hb]
      exact nI_1 _
theorem i_vc_matches {k : Nat} {u : SX} {v : SY} (I : i_Rel k u v) (hk : k + 3 ≤ 1536) : wpX_matches (fun r => wpY_matches (fun r' => r' = r ∧ i_Rel (k + 3) u v) v) u := by
  obtain ⟨m, d, t, w, st, ai, lb, hm, rfl, rfl, ⟨hd, hD⟩, hr⟩ := I
  have R : i_Rel (k + 3) (nI m, d, t, w, st) (nI m, t, w, ai, lb) := sj_rel hm hd hD hr
  unfold wpX_matches wpY_matches
  dsimp only
  refine sx_sims hm (fun Q hQ => sx_count ?_)
  rw [sj_M_n hm hQ]
  exact ⟨m + 1, sy_mats_l (st := st) hm hD (fun r h => (hr r h).2) ⟨rfl, R⟩ m 0 (by omega)⟩
theorem sj_mat {m : Nat} (hm : m ≤ 20) {d t w Q : Int32} {st ai lb : Nat → Int32} (hD : sj_Row ai 20 d) (hr : ∀ r, r < m → sj_Row ai r (st r)) (hQ : sj_M m (fun j => sj_sim t w d (st j)) Q) : ∀ (e i : Nat), i + e = 20 → ∃ r : Int32, (∀ post : Int32 → Prop, post r → wX_match_23 post Q (nI m) d t w st (e + 1) (nI i)) ∧ (∀ post : Int32 → Prop, post r → wY_match_14 post (nI m) t w ai lb (e + 1) (nI i)) := by
  intro e
  induction e with
  | zero =>
    intro i hi
    exact ⟨-2, fun post hp => pk_le m i (fun _ => hp) (fun h => absurd h (by omega)), fun post hp => pk_le m i (fun _ => hp) (fun h => absurd h (by omega))⟩
  | succ e ih =>
    intro i hi
    by_cases hmi : m ≤ i
    · exact ⟨-2, fun post hp => pk_le m i (fun _ => hp) (fun h => absurd h (by omega)), fun post hp => pk_le m i (fun _ => hp) (fun h => absurd h (by omega))⟩
    have hb := sj_M_b hQ (j := i) (by omega)
    have hc := sj_sim_comm t w (st i) d
    cases hT : sj_sim t w d (st i)
    · rw [hT] at hb hc
      obtain ⟨r, hX, hY⟩ := ih (i + 1) (by omega)
      refine ⟨r, fun post hp => ?_, fun post hp => ?_⟩
      · exact pk_le m i (fun h => absurd h hmi) (fun _ => sx_in (by omega) (sj_br (fun _ => nm_r (nI_1 i) (hX post hp)) (fun z => absurd (hb.symm.trans z) (by decide))))
      · exact pk_le m i (fun h => absurd h hmi) (fun _ => pk_le 20 i (fun h => absurd h (by omega)) (fun _ => sy_alike (q := 20) (by omega) (by omega) (hr i (by omega)) hD (sj_br (fun _ => nm_r (nI_1 i) (hY post hp)) (fun z => absurd (hc.symm.trans z) (by decide)))))
    · rw [hT] at hb hc
      refine ⟨nI i, fun post hp => ?_, fun post hp => ?_⟩
      · exact pk_le m i (fun h => absurd h hmi) (fun _ => sx_in (by omega) (sj_br (fun z => absurd (hb.symm.trans z) (by decide)) (fun _ => hp)))
      · exact pk_le m i (fun h => absurd h hmi) (fun _ => pk_le 20 i (fun h => absurd h (by omega)) (fun _ => sy_alike (q := 20) (by omega) (by omega) (hr i (by omega)) hD (sj_br (fun z => absurd (hc.symm.trans z) (by decide)) (fun _ => hp))))
theorem i_vc_match {k : Nat} {u : SX} {v : SY} (I : i_Rel k u v) (hk : k + 3 ≤ 1536) (v1 : Int32) : wpX_match (fun r => wpY_match (fun r' => r' = r ∧ i_Rel (k + 3) u v) v v1) u v1 := by
  obtain ⟨m, d, t, w, st, ai, lb, hm, rfl, rfl, ⟨hd, hD⟩, hr⟩ := I
  have R : i_Rel (k + 3) (nI m, d, t, w, st) (nI m, t, w, ai, lb) := sj_rel hm hd hD hr
  unfold wpX_match wpY_match
  dsimp only
  by_cases h0 : v1 < 0
  · exact br_t h0 (br_t h0 ⟨rfl, R⟩)
  · refine br_f h0 ?_
    rcases sj_two v1 (n := 20) (by omega) with h | ⟨j, hj, rfl⟩
    · have h1 : nI 20 ≤ v1 := h.resolve_left h0
      have h2 : ¬ v1 < 20 := Int32.not_lt.mpr h1
      have h3 : ¬ v1 ≤ 19 := fun z => absurd (Int32.le_trans h1 z) (by decide)
      exact br_f h2 (br_f h0 (br_f h3 ⟨rfl, R⟩))
    · refine pk_lt j 20 (fun _ => sx_sims hm (fun Q hQ => ?_)) (fun z => absurd z (by omega))
      obtain ⟨r, hX, hY⟩ := sj_mat (lb := lb) hm hD (fun r h => (hr r h).2) hQ (20 - j) j (by omega)
      exact ⟨20 - j + 1, hX _ (br_f h0 (pk_le j 19 (fun _ => ⟨20 - j + 1, hY _ ⟨rfl, R⟩⟩) (fun z => absurd z (by omega))))⟩
theorem sj_sub {a d : Int32} (hd : sj_Ok d) : (a &&& d) = d ↔ sj_n (a &&& d) = sj_n d := by
  refine ⟨fun h => by rw [h], fun h => b_ext (fun i _ => ?_)⟩
  by_cases e : i < 30
  · refine sj_c_eq (n := 30) (fun j _ hj => ?_) h i e
    rw [b_and] at hj
    exact (Bool.and_eq_true_iff.mp hj).2
  · rw [b_and, hd.1 i (by omega), Bool.and_false]
theorem sx_cont_l {post : Int32 → Prop} {m : Nat} (hm : m ≤ 20) {d t w : Int32} {st : Nat → Int32} (hp : post (nI (sj_c (fun j => decide ((st j &&& d) = d)) m))) : ∀ e i : Nat, i + e = m → wX_containing_4 post (nI m) d t w st (e + 1) (nI (sj_c (fun j => decide ((st j &&& d) = d)) i)) (nI i) := by
  intro e
  induction e with
  | zero =>
    intro i hi
    obtain rfl : i = m := by omega
    exact pk_le i i (fun _ => hp) (fun h => absurd h (by omega))
  | succ e ih =>
    intro i hi
    refine pk_le m i (fun h => absurd h (by omega)) (fun _ => ⟨vp_in_nI (by omega) (by omega), ?_⟩)
    rw [nI_clamp (n := i) (by omega)]
    refine br_c (fun hb => ?_) (fun hb => ?_)
    · refine nm_r (e' := nI (sj_c (fun j => decide ((st j &&& d) = d)) (i + 1))) ?_ (nm_r (nI_1 i) (ih (i + 1) (by omega)))
      rw [sj_c_t (f := fun j => decide ((st j &&& d) = d)) (n := i) (decide_eq_true hb)]
      exact nI_1 _
    · refine nm_r (nI_1 i) ?_
      rw [← sj_c_f (f := fun j => decide ((st j &&& d) = d)) (n := i) (decide_eq_false hb)]
      exact ih (i + 1) (by omega)
theorem sy_cont_l {post : Int32 → Prop} {m : Nat} (hm : m ≤ 20) {d t w : Int32} {st ai lb : Nat → Int32} (hd : sj_Ok d) (hD : sj_Row ai 20 d) (hr : ∀ r, r < m → sj_Row ai r (st r)) (hp : post (nI (sj_c (fun j => decide ((st j &&& d) = d)) m))) : ∀ e i : Nat, i + e = m → wY_containing_11 post (nI (sj_n d)) (nI m) t w ai lb (e + 1) (nI (sj_c (fun j => decide ((st j &&& d) = d)) i)) (nI i) := by
  have h30 := sj_n_le d
  intro e
  induction e with
  | zero =>
    intro i hi
    obtain rfl : i = m := by omega
    exact pk_le i i (fun _ => hp) (fun h => absurd h (by omega))
  | succ e ih =>
    intro i hi
    have h31 := sj_n_le (st i &&& d)
    refine pk_le m i (fun h => absurd h (by omega)) (fun _ => pk_le 20 i (fun h => absurd h (by omega)) (fun _ => sy_both (q := 20) (by omega) (by omega) (hr i (by omega)) hD (pk_eq (sj_n (st i &&& d)) (sj_n d) (fun hb => ?_) (fun hb => ?_))))
    · refine nm_r (e' := nI (sj_c (fun j => decide ((st j &&& d) = d)) (i + 1))) ?_ (nm_r (nI_1 i) (ih (i + 1) (by omega)))
      rw [sj_c_t (f := fun j => decide ((st j &&& d) = d)) (n := i) (decide_eq_true ((sj_sub hd).mpr hb))]
      exact nI_1 _
    · refine nm_r (nI_1 i) ?_
      rw [← sj_c_f (f := fun j => decide ((st j &&& d) = d)) (n := i) (decide_eq_false (fun z => hb ((sj_sub hd).mp z)))]
      exact ih (i + 1) (by omega)
theorem i_vc_containing {k : Nat} {u : SX} {v : SY} (I : i_Rel k u v) (hk : k + 3 ≤ 1536) : wpX_containing (fun r => wpY_containing (fun r' => r' = r ∧ i_Rel (k + 3) u v) v) u := by
  obtain ⟨m, d, t, w, st, ai, lb, hm, rfl, rfl, ⟨hd, hD⟩, hr⟩ := I
  have R : i_Rel (k + 3) (nI m, d, t, w, st) (nI m, t, w, ai, lb) := sj_rel hm hd hD hr
  unfold wpX_containing wpY_containing
  dsimp only
  refine ⟨m + 1, sx_cont_l hm ?_ m 0 (by omega)⟩
  exact sy_size (r := 20) (by omega) hD ⟨m + 1, sy_cont_l (st := st) hm hd hD (fun r h => (hr r h).2) ⟨rfl, R⟩ m 0 (by omega)⟩
end
section
/-! which records hang together, and what one round of labels does: no walk here -/
/-- b is reached from a by steps between records below m -/
def sj_rc (m : Nat) (S : Nat → Nat → Bool) (a b : Nat) : Prop := ∀ P : Nat → Prop, P a → (∀ x y, x < m → y < m → P x → S x y = true → P y) → P b
theorem sj_rc_0 {m : Nat} {S : Nat → Nat → Bool} {a : Nat} : sj_rc m S a a := fun _ h _ => h
theorem sj_rc_s {m : Nat} {S : Nat → Nat → Bool} {a x y : Nat} (h : sj_rc m S a x) (hx : x < m) (hy : y < m) (e : S x y = true) : sj_rc m S a y :=
  fun P h0 hs => hs x y hx hy (h P h0 hs) e
theorem sj_rc_t {m : Nat} {S : Nat → Nat → Bool} {a b c : Nat} (h : sj_rc m S a b) (g : sj_rc m S b c) : sj_rc m S a c :=
  fun P h0 hs => g P (h P h0 hs) hs
theorem sj_rc_c {m : Nat} {S : Nat → Nat → Bool} (hS : ∀ x y, S x y = S y x) {a b : Nat} (h : sj_rc m S a b) : sj_rc m S b a :=
  h (fun z => sj_rc m S z a) sj_rc_0 (fun x y hx hy hp e => sj_rc_t (sj_rc_s sj_rc_0 hy hx ((hS y x).trans e)) hp)
theorem sj_rc_lt {m : Nat} {S : Nat → Nat → Bool} {a b : Nat} (ha : a < m) (h : sj_rc m S a b) : b < m :=
  h (fun z => z < m) ha (fun _ _ _ hy _ _ => hy)
/-- labels that stay within their groups and never grow -/
def sj_V (m : Nat) (S : Nat → Nat → Bool) (lb : Nat → Int32) (L : Nat → Nat) : Prop := ∀ a, a < m → lb a = nI (L a) ∧ L a ≤ a ∧ sj_rc m S a (L a)
/-- the label of a is its group's least -/
def sj_Cor (m : Nat) (S : Nat → Nat → Bool) (L : Nat → Nat) (a : Nat) : Prop := ∀ b, sj_rc m S a b → L a ≤ b
def sj_Fin (m : Nat) (S : Nat → Nat → Bool) (L : Nat → Nat) : Prop := ∀ a, a < m → sj_Cor m S L a
noncomputable def sj_cor (m : Nat) (S : Nat → Nat → Bool) (L : Nat → Nat) (a : Nat) : Bool := @decide (sj_Cor m S L a) (Classical.propDecidable _)
theorem sj_cor_t {m : Nat} {S : Nat → Nat → Bool} {L : Nat → Nat} {a : Nat} : sj_cor m S L a = true ↔ sj_Cor m S L a := by
  unfold sj_cor
  exact @decide_eq_true_iff _ (Classical.propDecidable _)
/-- if a round makes no label right that wasn't so before, all were right -/
theorem sj_prog {m : Nat} {S : Nat → Nat → Bool} (hS : ∀ x y, S x y = S y x) {lb : Nat → Int32} {L L' : Nat → Nat} (hV : sj_V m S lb L) (hB : ∀ a b, a < m → b < m → S a b = true → L' a ≤ L b) (h : ∀ y, y < m → sj_Cor m S L' y → sj_Cor m S L y) : sj_Fin m S L := by
  intro a ha
  obtain ⟨μ, hμ, hleast⟩ := pk_least (fun z => sj_rc m S a z) ⟨a, sj_rc_0⟩
  have hm := sj_rc_lt ha hμ
  have c0 : sj_Cor m S L μ := by
    intro b hb
    have h1 := (hV μ hm).2.1
    have h2 : ¬ b < μ := fun z => hleast b z (sj_rc_t hμ hb)
    omega
  have hall : μ < m ∧ sj_Cor m S L μ → a < m ∧ sj_Cor m S L a := by
    intro h0
    refine (sj_rc_c hS hμ) (fun z => z < m ∧ sj_Cor m S L z) h0 (fun x y hx hy hP e => ⟨hy, h y hy ?_⟩)
    intro b hb
    have e1 : L' y ≤ L x := hB y x hy hx ((hS y x).trans e)
    have e2 : L x ≤ b := hP.2 b (sj_rc_t (sj_rc_s sj_rc_0 hx hy e) hb)
    omega
  exact (hall ⟨hm, c0⟩).2
theorem sj_round {m : Nat} {S : Nat → Nat → Bool} (hS : ∀ x y, S x y = S y x) {lb : Nat → Int32} {L L' : Nat → Nat} {i : Nat} (hV : sj_V m S lb L) (hA : ∀ a, a < m → L' a ≤ L a) (hB : ∀ a b, a < m → b < m → S a b = true → L' a ≤ L b) (hK : sj_Fin m S L ∨ i ≤ sj_c (sj_cor m S L) m) : sj_Fin m S L' ∨ i + 1 ≤ sj_c (sj_cor m S L') m := by
  have mono : ∀ a, a < m → sj_Cor m S L a → sj_Cor m S L' a := fun a ha hc b hb => Nat.le_trans (hA a ha) (hc b hb)
  by_cases hF : sj_Fin m S L
  · exact Or.inl (fun a ha => mono a ha (hF a ha))
  · refine Or.inr ?_
    have hi := hK.resolve_left hF
    have ex : ∃ y, y < m ∧ sj_Cor m S L' y ∧ ¬ sj_Cor m S L y := by
      refine Classical.byContradiction (fun hne => hF (sj_prog hS hV hB (fun y hy hc => Classical.byContradiction (fun hn => hne ⟨y, hy, hc, hn⟩))))
    obtain ⟨y, hy, h1, h2⟩ := ex
    have hf : sj_cor m S L y = false := by
      cases e : sj_cor m S L y
      · rfl
      · exact absurd (sj_cor_t.mp e) h2
    have := sj_c_lt (f := sj_cor m S L) (g := sj_cor m S L') (n := m) (k := y) (fun a ha e => sj_cor_t.mpr (mono a ha (sj_cor_t.mp e))) hy hf (sj_cor_t.mpr h1)
    omega
theorem sj_still {m : Nat} {S : Nat → Nat → Bool} (hS : ∀ x y, S x y = S y x) {lb : Nat → Int32} {L L' : Nat → Nat} (hV : sj_V m S lb L) (hB : ∀ a b, a < m → b < m → S a b = true → L' a ≤ L b) (hC : ∀ a, a < m → L' a = L a) : sj_Fin m S L' := by
  have hF : sj_Fin m S L := sj_prog hS hV hB (fun y hy hc b hb => by rw [← hC y hy]; exact hc b hb)
  intro a ha b hb
  rw [hC a ha]
  exact hF a ha b hb
theorem sj_full {m : Nat} {S : Nat → Nat → Bool} {L : Nat → Nat} (h : sj_Fin m S L ∨ m ≤ sj_c (sj_cor m S L) m) : sj_Fin m S L := by
  rcases h with h | h
  · exact h
  · have h1 := sj_c_le (sj_cor m S L) m
    intro a ha
    exact sj_cor_t.mp (sj_c_full (by omega) a ha)
/-- two records have one label just if they hang together -/
theorem sj_lab {m : Nat} {S : Nat → Nat → Bool} (hS : ∀ x y, S x y = S y x) {lb : Nat → Int32} {L : Nat → Nat} (hV : sj_V m S lb L) (hF : sj_Fin m S L) {a b : Nat} (ha : a < m) (hb : b < m) : L b = L a ↔ sj_rc m S a b := by
  have ra := (hV a ha).2.2
  have rb := (hV b hb).2.2
  constructor
  · intro e
    rw [e] at rb
    exact sj_rc_t ra (sj_rc_c hS rb)
  · intro h
    have h1 := hF a ha (L b) (sj_rc_t h rb)
    have h2 := hF b hb (L a) (sj_rc_t (sj_rc_c hS h) ra)
    omega
/-- what holds within a round, at the pair a, b: L0 the labels at its start, c whether one has changed -/
def sj_Inv (m : Nat) (S : Nat → Nat → Bool) (L0 : Nat → Nat) (a b : Nat) (c : Bool) (lb : Nat → Int32) (L : Nat → Nat) : Prop :=
  sj_V m S lb L ∧ (∀ x, x < m → L x ≤ L0 x) ∧ (c = false → ∀ x, x < m → L x = L0 x) ∧ (∀ x y, x < a → y < m → S x y = true → L x ≤ L0 y) ∧ (∀ y, y < b → S a y = true → L a ≤ L0 y)
theorem sj_inv_keep {m : Nat} {S : Nat → Nat → Bool} {L0 : Nat → Nat} {a b : Nat} {c : Bool} {lb : Nat → Int32} {L : Nat → Nat} (hb : b < m) (h : sj_Inv m S L0 a b c lb L) (e : S a b = true → L a ≤ L b) : sj_Inv m S L0 a (b + 1) c lb L := by
  obtain ⟨h1, h2, h3, h4, h5⟩ := h
  refine ⟨h1, h2, h3, h4, fun y hy hs => ?_⟩
  by_cases e1 : y = b
  · subst e1
    exact Nat.le_trans (e hs) (h2 y hb)
  · exact h5 y (by omega) hs
theorem sj_inv_row {m : Nat} {S : Nat → Nat → Bool} {L0 : Nat → Nat} {a : Nat} {c : Bool} {lb : Nat → Int32} {L : Nat → Nat} (h : sj_Inv m S L0 a m c lb L) : sj_Inv m S L0 (a + 1) 0 c lb L := by
  obtain ⟨h1, h2, h3, h4, h5⟩ := h
  refine ⟨h1, h2, h3, fun x y hx hy hs => ?_, fun y hy => absurd hy (by omega)⟩
  by_cases e1 : x = a
  · subst e1
    exact h5 y hy hs
  · exact h4 x y (by omega) hy hs
theorem sj_inv_set {m : Nat} {S : Nat → Nat → Bool} {L0 : Nat → Nat} {a b : Nat} {c : Bool} {lb : Nat → Int32} {L : Nat → Nat} (ha : a < m) (hb : b < m) (h : sj_Inv m S L0 a b c lb L) (e : S a b = true) (hl : L b < L a) : sj_Inv m S L0 a (b + 1) true (upd lb a (lb b)) (fun x => if x = a then L b else L x) := by
  obtain ⟨h1, h2, h3, h4, h5⟩ := h
  refine ⟨fun x hx => ?_, fun x hx => ?_, (fun z => nomatch z), fun x y hx hy hs => ?_, fun y hy hs => ?_⟩
  · dsimp only
    by_cases e1 : x = a
    · subst e1
      rw [if_pos rfl, pk_us]
      have g := (h1 x hx).2.1
      exact ⟨(h1 b hb).1, by omega, sj_rc_t (sj_rc_s sj_rc_0 hx hb e) (h1 b hb).2.2⟩
    · rw [if_neg e1, pk_un e1]
      exact h1 x hx
  · dsimp only
    by_cases e1 : x = a
    · subst e1
      rw [if_pos rfl]
      have g := h2 x hx
      omega
    · rw [if_neg e1]
      exact h2 x hx
  · dsimp only
    rw [if_neg (by omega)]
    exact h4 x y hx hy hs
  · dsimp only
    rw [if_pos rfl]
    by_cases e1 : y = b
    · subst e1
      exact h2 y hb
    · have g := h5 y (by omega) hs
      omega
end
section
/-! the records linked to one, and the reference's labels -/
/-- similar records, as a table -/
def sj_S (t w : Int32) (st : Nat → Int32) (a b : Nat) : Bool := sj_sim t w (st a) (st b)
theorem sj_S_c (t w : Int32) (st : Nat → Int32) (a b : Nat) : sj_S t w st a b = sj_S t w st b a := sj_sim_comm t w (st a) (st b)
theorem sj_close {m q : Nat} {S : Nat → Nat → Bool} {A B : Int32} (h1 : ∀ j, bt A j = true → sj_rc m S q j) (h2 : bt A q = true) (h4 : ∀ a b, a < m → b < m → bt B a = true → S a b = true → bt A b = true) (h : ∀ j, j < m → bt A j = true → bt B j = true) : ∀ j, bt A j = true ↔ sj_rc m S q j :=
  fun j => ⟨h1 j, fun g => g (fun z => bt A z = true) h2 (fun x y hx hy hP e => h4 x y hx hy (h x hx hP) e)⟩
theorem sx_link_l {post : Int32 → Prop} {m q : Nat} (hm : m ≤ 20) (hq : q < m) {d t w : Int32} {st : Nat → Int32} (hp : ∀ A, (∀ j, bt A j = true ↔ sj_rc m (sj_S t w st) q j) → post A) : ∀ (e i : Nat) (A B : Int32), i + e = m → (∀ j, bt A j = true → sj_rc m (sj_S t w st) q j) → bt A q = true → (∀ a b, a < m → b < m → bt B a = true → sj_S t w st a b = true → bt A b = true) → sj_c (bt B) m = i → wX_recordsLinkedTo_9 post (nI m) d t w st (e + 1) A B (nI i) := by
  intro e
  induction e with
  | zero =>
    intro i A B hi h1 h2 h4 h5
    obtain rfl : i = m := by omega
    exact pk_le i i (fun _ => hp A (sj_close h1 h2 h4 (fun j hj _ => sj_c_full h5 j hj))) (fun h => absurd h (by omega))
  | succ e ih =>
    intro i A B hi h1 h2 h4 h5
    refine pk_le m i (fun h => absurd h (by omega)) (fun _ => sx_least (fun h0 => ?_) (fun r hr20 hb hlow => ?_))
    · refine br_f (by decide) (hp A (sj_close h1 h2 h4 (fun j hj ha => ?_)))
      have g := h0 j (by omega)
      rw [sj_minus, ha, Bool.true_and] at g
      cases hB : bt B j
      · rw [hB] at g; exact absurd g (by decide)
      · rfl
    · rw [sj_minus] at hb
      have hA : bt A r = true := (Bool.and_eq_true_iff.mp hb).1
      have hB : bt B r = false := by
        have g := (Bool.and_eq_true_iff.mp hb).2
        cases hB : bt B r
        · rfl
        · rw [hB] at g; exact absurd g (by decide)
      have hrm : r < m := sj_rc_lt hq (h1 r hA)
      refine br_t (nI_pos' (by omega)) (nm_e ⟨vp_in_nI (by omega) (by omega), ?_⟩)
      rw [nI_clamp (n := r) (by omega)]
      refine sx_sims hm (fun Q hQ => nm_e (nm_r (nI_1 i) (ih (i + 1) _ _ (by omega) (fun j hj => ?_) ?_ (fun a b ha hb2 hBa hs => ?_) ?_)))
      · rw [b_or] at hj
        rcases Bool.or_eq_true_iff.mp hj with g | g
        · exact h1 j g
        · rw [hQ j] at g
          have g2 := Bool.and_eq_true_iff.mp g
          exact sj_rc_s (h1 r hA) hrm (of_decide_eq_true g2.1) g2.2
      · rw [b_or, h2, Bool.true_or]
      · rw [sj_on B (by omega)] at hBa
        rw [b_or]
        rcases Bool.or_eq_true_iff.mp hBa with g | g
        · rw [h4 a b ha hb2 g hs, Bool.true_or]
        · have e1 : a = r := of_decide_eq_true g
          rw [e1] at hs
          rw [sj_M_b hQ hb2, show sj_sim t w (st r) (st b) = true from hs, Bool.or_true]
      · rw [← h5]
        refine sj_c_set hrm hB ?_ (fun j hj => ?_)
        · rw [sj_on B (by omega), decide_eq_true rfl, Bool.or_true]
        · rw [sj_on B (by omega), decide_eq_false hj, Bool.or_false]
theorem sx_link {post : Int32 → Prop} {m q : Nat} (hm : m ≤ 20) (hq : q < m) {d t w : Int32} {st : Nat → Int32} (hp : ∀ A, (∀ j, bt A j = true ↔ sj_rc m (sj_S t w st) q j) → post A) : wpX_recordsLinkedTo post (nI m, d, t, w, st) (nI q) := by
  unfold wpX_recordsLinkedTo
  dsimp only
  refine nm_e ⟨m + 1, sx_link_l hm hq hp m 0 _ 0 (by omega) (fun j hj => ?_) ?_ (fun a b _ _ h _ => ?_) ?_⟩
  · rw [sj_one (by omega)] at hj
    rw [of_decide_eq_true hj]
    exact sj_rc_0
  · rw [sj_one (by omega), decide_eq_true rfl]
  · rw [b_0] at h
    exact absurd h (by decide)
  · exact sj_c_zero (fun j _ => b_0 j)
theorem sj_narb (c : Bool) : narrow .boolean (.int (sj_b c)) = .int (sj_b c) := by cases c <;> rfl
theorem sy_low_in {post : Int32 → SY → Prop} {J : Int32 → Int32 → (Nat → Int32) → (Nat → Int32) → Prop} {m a : Nat} (hm : m ≤ 20) (ha : a < m) {t w : Int32} {st ai : Nat → Int32} (hr : ∀ r, r < m → sj_Row ai r (st r)) {L0 : Nat → Nat} (hJ : ∀ (c : Bool) (lb : Nat → Int32) (L : Nat → Nat), sj_Inv m (sj_S t w st) L0 (a + 1) 0 c lb L → J (sj_b c) (nI (a + 1)) ai lb) : ∀ (e b : Nat) (c : Bool) (lb : Nat → Int32) (L : Nat → Nat), b + e = m → sj_Inv m (sj_S t w st) L0 a b c lb L → wY_lower_20 post J (nI a) (nI m) t w (e + 1) (sj_b c) (nI b) ai lb := by
  intro e
  induction e with
  | zero =>
    intro b c lb L hi hI
    obtain rfl : b = m := by omega
    exact pk_le b b (fun _ => nm_r (nI_1 a) (hJ c lb L (sj_inv_row hI))) (fun h => absurd h (by omega))
  | succ e ih =>
    intro b c lb L hi hI
    have hbm : b < m := by omega
    have va := hI.1 a ha
    have vb := hI.1 b hbm
    have vin : vp_in (nI a) 20 := vp_in_nI (by omega) (by omega)
    have vib : vp_in (nI b) 20 := vp_in_nI (by omega) (by omega)
    refine pk_le m b (fun h => absurd h (by omega)) (fun _ => pk_le 20 b (fun h => absurd h (by omega)) (fun _ => ⟨vib, vin, ?_⟩))
    rw [nI_clamp (n := a) (by omega), nI_clamp (n := b) (by omega)]
    refine pk_le (L a) (L b) (fun hle => ?_) (fun hlt => ?_) va.1 vb.1
    · exact nm_r (nI_1 b) (ih (b + 1) c lb L (by omega) (sj_inv_keep hbm hI (fun _ => hle)))
    · refine sy_alike (by omega) (by omega) (hr a ha) (hr b hbm) (sj_br (fun hs => ?_) (fun hs => ⟨vib, vin, ?_⟩))
      · exact nm_r (nI_1 b) (ih (b + 1) c lb L (by omega) (sj_inv_keep hbm hI (fun z => absurd (hs.symm.trans z) (by decide))))
      · exact nm_e (nm_r (nI_1 b) (ih (b + 1) true _ _ (by omega) (sj_inv_set ha hbm hI hs hlt)))
theorem sy_low_l {post : Int32 → SY → Prop} {m : Nat} (hm : m ≤ 20) {t w : Int32} {st ai : Nat → Int32} (hr : ∀ r, r < m → sj_Row ai r (st r)) {L0 : Nat → Nat} (hp : ∀ (c : Bool) (lb : Nat → Int32) (L : Nat → Nat), sj_Inv m (sj_S t w st) L0 m 0 c lb L → post (sj_b c) (nI m, t, w, ai, lb)) : ∀ (e a : Nat) (c : Bool) (lb : Nat → Int32) (L : Nat → Nat), a + e = m → sj_Inv m (sj_S t w st) L0 a 0 c lb L → wY_lower_4 post (nI m) t w (e + 1) (sj_b c) (nI a) ai lb := by
  intro e
  induction e with
  | zero =>
    intro a c lb L hi hI
    obtain rfl : a = m := by omega
    exact pk_le a a (fun _ => ⟨sj_narb c, hp c lb L hI⟩) (fun h => absurd h (by omega))
  | succ e ih =>
    intro a c lb L hi hI
    refine pk_le m a (fun h => absurd h (by omega)) (fun _ => pk_le 20 a (fun h => absurd h (by omega)) (fun _ => ⟨m + 1, ?_⟩))
    exact sy_low_in (st := st) (L0 := L0) hm (by omega) hr (fun c' lb' L' h' => ih (a + 1) c' lb' L' (by omega) h') m 0 c lb L (by omega) hI
theorem sy_low {post : Int32 → SY → Prop} {m : Nat} (hm : m ≤ 20) {t w : Int32} {st ai lb : Nat → Int32} (hr : ∀ r, r < m → sj_Row ai r (st r)) {L : Nat → Nat} (hV : sj_V m (sj_S t w st) lb L) (hp : ∀ (c : Bool) (lb' : Nat → Int32) (L' : Nat → Nat), sj_Inv m (sj_S t w st) L m 0 c lb' L' → post (sj_b c) (nI m, t, w, ai, lb')) : wpY_lower post (nI m, t, w, ai, lb) :=
  ⟨m + 1, sy_low_l (st := st) (L0 := L) hm hr hp m 0 false lb L (by omega) ⟨hV, fun _ _ => Nat.le_refl _, fun _ _ _ => rfl, fun x _ hx => absurd hx (by omega), fun y hy => absurd hy (by omega)⟩⟩
theorem sy_join_l {post : SY → Prop} {m : Nat} (hm : m ≤ 20) {t w : Int32} {st ai : Nat → Int32} (hr : ∀ r, r < m → sj_Row ai r (st r)) (hp : ∀ (lb : Nat → Int32) (L : Nat → Nat), sj_V m (sj_S t w st) lb L → sj_Fin m (sj_S t w st) L → post (nI m, t, w, ai, lb)) : ∀ (e i : Nat) (c : Bool) (lb : Nat → Int32) (L : Nat → Nat), i + e = 20 → sj_V m (sj_S t w st) lb L → (c = false → sj_Fin m (sj_S t w st) L) → (sj_Fin m (sj_S t w st) L ∨ i ≤ sj_c (sj_cor m (sj_S t w st) L) m) → wY_join_25 post (e + 1) (sj_b c) (nI i) (nI m) t w ai lb := by
  intro e
  induction e with
  | zero =>
    intro i c lb L hi hV hc hK
    obtain rfl : i = 20 := by omega
    exact pk_le 20 20 (fun _ => hp lb L hV (sj_full (hK.imp_right (fun h => Nat.le_trans hm h)))) (fun h => absurd h (by omega))
  | succ e ih =>
    intro i c lb L hi hV hc hK
    refine pk_le 20 i (fun h => absurd h (by omega)) (fun _ => sj_br (fun h => hp lb L hV (hc h)) (fun _ => ?_))
    refine sy_low (st := st) hm hr hV (fun c' lb' L' hI => ?_)
    have hB : ∀ a b, a < m → b < m → sj_S t w st a b = true → L' a ≤ L b := fun a b ha hb hs => hI.2.2.2.1 a b ha hb hs
    exact nm_r (nI_1 i) (ih (i + 1) c' lb' L' (by omega) hI.1 (fun h => sj_still (sj_S_c t w st) hV hB (hI.2.2.1 h)) (sj_round (sj_S_c t w st) hV hI.2.1 hB hK))
theorem sy_join_2 {post : SY → Prop} {m : Nat} (hm : m ≤ 20) {t w : Int32} {st ai : Nat → Int32} (hr : ∀ r, r < m → sj_Row ai r (st r)) (hp : ∀ (lb : Nat → Int32) (L : Nat → Nat), sj_V m (sj_S t w st) lb L → sj_Fin m (sj_S t w st) L → post (nI m, t, w, ai, lb)) : ∀ (e i : Nat) (lb : Nat → Int32), i + e = 20 → (∀ j, j < i → lb j = nI j) → wY_join_2 post (nI m) t w (e + 1) (nI i) ai lb := by
  intro e
  induction e with
  | zero =>
    intro i lb hi h
    obtain rfl : i = 20 := by omega
    refine pk_le 20 20 (fun _ => ⟨21, ?_⟩) (fun h => absurd h (by omega))
    exact sy_join_l (st := st) hm hr hp 20 0 true lb (fun j => j) rfl (fun a ha => ⟨h a (by omega), Nat.le_refl a, sj_rc_0⟩) (fun z => nomatch z) (Or.inr (Nat.zero_le _))
  | succ e ih =>
    intro i lb hi h
    refine pk_le 20 i (fun h => absurd h (by omega)) (fun _ => ⟨vp_in_nI (by omega) (by omega), ?_⟩)
    rw [nI_clamp (n := i) (by omega)]
    refine nm_e (nm_r (nI_1 i) (ih (i + 1) _ (by omega) (fun j hj => ?_)))
    by_cases e1 : j = i
    · rw [e1, pk_us]
    · rw [pk_un e1]; exact h j (by omega)
theorem sy_join {post : SY → Prop} {m : Nat} (hm : m ≤ 20) {t w : Int32} {st ai lb : Nat → Int32} (hr : ∀ r, r < m → sj_Row ai r (st r)) (hp : ∀ (lb : Nat → Int32) (L : Nat → Nat), sj_V m (sj_S t w st) lb L → sj_Fin m (sj_S t w st) L → post (nI m, t, w, ai, lb)) : wpY_join post (nI m, t, w, ai, lb) :=
  ⟨21, sy_join_2 (st := st) hm hr hp 20 0 lb rfl (fun j hj => absurd hj (by omega))⟩
end
section
/-! groups, groupOf, groupSize -/
theorem i_vc_groupOf {k : Nat} {u : SX} {v : SY} (I : i_Rel k u v) (hk : k + 3 ≤ 1536) (v1 : Int32) : wpX_groupOf (fun r => wpY_groupOf (fun r' v' => r' = r ∧ i_Rel (k + 3) u v') v v1) u v1 := by
  obtain ⟨m, d, t, w, st, ai, lb, hm, rfl, rfl, ⟨hd, hD⟩, hr⟩ := I
  unfold wpX_groupOf wpY_groupOf
  dsimp only
  rcases sj_two v1 (n := m) (by omega) with h | ⟨q, hq, rfl⟩
  · exact sx_rec_no h (br_t rfl (sy_bad_no h (br_f (by decide) ⟨rfl, sj_rel hm hd hD hr⟩)))
  · refine sx_rec_ok hm hq (br_f (by decide) (sx_link hm hq (fun A hA => sx_least (fun h0 => ?_) (fun r hr20 hb hlow => ?_))))
    · exact absurd ((h0 q (by omega)).symm.trans ((hA q).mpr sj_rc_0)) (by decide)
    · refine sy_bad_ok hm hq (br_t rfl (sy_join (st := st) hm (fun r h => (hr r h).2) (fun lb' L hV hF => ?_)))
      refine ⟨vp_in_nI (by omega) (by omega), ?_, sj_rel hm hd hD hr⟩
      rw [nI_clamp (n := q) (by omega)]
      refine (hV q hq).1.trans ?_
      have h1 : L q ≤ r := hF q hq r ((hA r).mp hb)
      have h2 : ¬ L q < r := fun z => absurd ((hlow (L q) z).symm.trans ((hA (L q)).mpr (hV q hq).2.2)) (by decide)
      rw [show L q = r by omega]
theorem sy_gsz_l {post : Int32 → SY → Prop} {m q : Nat} (hm : m ≤ 20) (hq : q < m) {t w : Int32} {ai lb : Nat → Int32} {L : Nat → Nat} (hL : ∀ a, a < m → lb a = nI (L a) ∧ L a ≤ a) (hp : post (nI (sj_c (fun j => decide (L j = L q)) m)) (nI m, t, w, ai, lb)) : ∀ e i : Nat, i + e = m → wY_groupSize_18 post (nI q) (nI m) t w ai lb (e + 1) (nI (sj_c (fun j => decide (L j = L q)) i)) (nI i) := by
  intro e
  induction e with
  | zero =>
    intro i hi
    obtain rfl : i = m := by omega
    exact pk_le i i (fun _ => hp) (fun h => absurd h (by omega))
  | succ e ih =>
    intro i hi
    have li := hL i (by omega)
    have lq := hL q hq
    refine pk_le m i (fun h => absurd h (by omega)) (fun _ => pk_le 20 i (fun h => absurd h (by omega)) (fun _ => ⟨vp_in_nI (by omega) (by omega), vp_in_nI (by omega) (by omega), ?_⟩))
    rw [nI_clamp (n := i) (by omega), nI_clamp (n := q) (by omega)]
    refine pk_eq (L i) (L q) (fun hb => ?_) (fun hb => ?_) li.1 lq.1
    · refine nm_r (e' := nI (sj_c (fun j => decide (L j = L q)) (i + 1))) ?_ (nm_r (nI_1 i) (ih (i + 1) (by omega)))
      rw [sj_c_t (f := fun j => decide (L j = L q)) (n := i) (decide_eq_true hb)]
      exact nI_1 _
    · refine nm_r (nI_1 i) ?_
      rw [← sj_c_f (f := fun j => decide (L j = L q)) (n := i) (decide_eq_false hb)]
      exact ih (i + 1) (by omega)
theorem i_vc_groupSize {k : Nat} {u : SX} {v : SY} (I : i_Rel k u v) (hk : k + 3 ≤ 1536) (v1 : Int32) : wpX_groupSize (fun r => wpY_groupSize (fun r' v' => r' = r ∧ i_Rel (k + 3) u v') v v1) u v1 := by
  obtain ⟨m, d, t, w, st, ai, lb, hm, rfl, rfl, ⟨hd, hD⟩, hr⟩ := I
  unfold wpX_groupSize wpY_groupSize
  dsimp only
  rcases sj_two v1 (n := m) (by omega) with h | ⟨q, hq, rfl⟩
  · exact sx_rec_no h (br_t rfl (sy_bad_no h (br_f (by decide) ⟨rfl, sj_rel hm hd hD hr⟩)))
  · refine sx_rec_ok hm hq (br_f (by decide) (sx_link hm hq (fun A hA => sx_count ?_)))
    refine sy_bad_ok hm hq (br_t rfl (sy_join (st := st) hm (fun r h => (hr r h).2) (fun lb' L hV hF => ?_)))
    refine ⟨m + 1, sy_gsz_l hm hq (L := L) (fun a ha => ⟨(hV a ha).1, (hV a ha).2.1⟩) ⟨?_, sj_rel hm hd hD hr⟩ m 0 (by omega)⟩
    have hA0 : ∀ j, m ≤ j → bt A j = false := by
      intro j hj
      cases e : bt A j
      · rfl
      · exact absurd (sj_rc_lt hq ((hA j).mp e)) (by omega)
    have e1 : sj_n A = sj_c (bt A) m := sj_c_tail (by omega) hA0
    rw [e1]
    refine congrArg nI (sj_c_ext (fun j hj => ?_))
    have e2 := sj_lab (sj_S_c t w st) hV hF hq hj
    cases e : bt A j
    · exact decide_eq_false (fun z => absurd (e.symm.trans ((hA j).mpr (e2.mp z))) (by decide))
    · exact decide_eq_true (e2.mpr ((hA j).mp e))
/-- no earlier record hangs together with r -/
noncomputable def sj_new (m : Nat) (S : Nat → Nat → Bool) (r : Nat) : Bool := @decide (∀ a, a < r → ¬ sj_rc m S a r) (Classical.propDecidable _)
theorem sj_new_t {m : Nat} {S : Nat → Nat → Bool} {r : Nat} : sj_new m S r = true ↔ ∀ a, a < r → ¬ sj_rc m S a r := by
  unfold sj_new
  exact @decide_eq_true_iff _ (Classical.propDecidable _)
theorem sj_new_f {m : Nat} {S : Nat → Nat → Bool} {r : Nat} (h : ¬ ∀ a, a < r → ¬ sj_rc m S a r) : sj_new m S r = false := by
  cases e : sj_new m S r
  · rfl
  · exact absurd (sj_new_t.mp e) h
theorem sx_grp_l {post : Int32 → Prop} {m : Nat} (hm : m ≤ 20) {d t w : Int32} {st : Nat → Int32} (hp : post (nI (sj_c (sj_new m (sj_S t w st)) m))) : ∀ (e i : Nat) (G : Int32), i + e = m → (∀ j, bt G j = true ↔ ∃ a, a < i ∧ sj_rc m (sj_S t w st) a j) → wX_groups_6 post (nI m) d t w st (e + 1) (nI (sj_c (sj_new m (sj_S t w st)) i)) G (nI i) := by
  intro e
  induction e with
  | zero =>
    intro i G hi hG
    obtain rfl : i = m := by omega
    exact pk_le i i (fun _ => hp) (fun h => absurd h (by omega))
  | succ e ih =>
    intro i G hi hG
    refine pk_le m i (fun h => absurd h (by omega)) (fun _ => sx_in (by omega) (sj_br (fun hb => ?_) (fun hb => ?_)))
    · have hn : sj_new m (sj_S t w st) i = true := sj_new_t.mpr (fun a ha hrc => absurd (hb.symm.trans ((hG i).mpr ⟨a, ha, hrc⟩)) (by decide))
      refine nm_r (e' := nI (sj_c (sj_new m (sj_S t w st)) (i + 1))) ?_ ?_
      · rw [sj_c_t hn]
        exact nI_1 _
      refine sx_link hm (by omega) (fun A hA => nm_e (nm_r (nI_1 i) (ih (i + 1) _ (by omega) (fun j => ?_))))
      rw [b_or, Bool.or_eq_true_iff, hG j, hA j]
      constructor
      · rintro (⟨a, ha, hrc⟩ | hrc)
        · exact ⟨a, by omega, hrc⟩
        · exact ⟨i, by omega, hrc⟩
      · rintro ⟨a, ha, hrc⟩
        by_cases e1 : a = i
        · subst e1; exact Or.inr hrc
        · exact Or.inl ⟨a, by omega, hrc⟩
    · obtain ⟨a, ha, hrc⟩ := (hG i).mp hb
      refine nm_r (nI_1 i) ?_
      rw [← sj_c_f (f := sj_new m (sj_S t w st)) (n := i) (sj_new_f (fun z => z a ha hrc))]
      refine ih (i + 1) G (by omega) (fun j => ?_)
      rw [hG j]
      constructor
      · rintro ⟨b, hb2, hrc2⟩
        exact ⟨b, by omega, hrc2⟩
      · rintro ⟨b, hb2, hrc2⟩
        by_cases e1 : b = i
        · subst e1; exact ⟨a, ha, sj_rc_t hrc hrc2⟩
        · exact ⟨b, by omega, hrc2⟩
theorem sy_grp_l {post : Int32 → SY → Prop} {m : Nat} (hm : m ≤ 20) {t w : Int32} {ai lb : Nat → Int32} {L : Nat → Nat} (hL : ∀ a, a < m → lb a = nI (L a) ∧ L a ≤ a) (hp : post (nI (sj_c (fun j => decide (L j = j)) m)) (nI m, t, w, ai, lb)) : ∀ e i : Nat, i + e = m → wY_groups_8 post (nI m) t w ai lb (e + 1) (nI (sj_c (fun j => decide (L j = j)) i)) (nI i) := by
  intro e
  induction e with
  | zero =>
    intro i hi
    obtain rfl : i = m := by omega
    exact pk_le i i (fun _ => hp) (fun h => absurd h (by omega))
  | succ e ih =>
    intro i hi
    have li := hL i (by omega)
    refine pk_le m i (fun h => absurd h (by omega)) (fun _ => pk_le 20 i (fun h => absurd h (by omega)) (fun _ => ⟨vp_in_nI (by omega) (by omega), ?_⟩))
    rw [nI_clamp (n := i) (by omega)]
    refine pk_eq (L i) i (fun hb => ?_) (fun hb => ?_) li.1
    · refine nm_r (e' := nI (sj_c (fun j => decide (L j = j)) (i + 1))) ?_ (nm_r (nI_1 i) (ih (i + 1) (by omega)))
      rw [sj_c_t (f := fun j => decide (L j = j)) (n := i) (decide_eq_true hb)]
      exact nI_1 _
    · refine nm_r (nI_1 i) ?_
      rw [← sj_c_f (f := fun j => decide (L j = j)) (n := i) (decide_eq_false hb)]
      exact ih (i + 1) (by omega)
theorem i_vc_groups {k : Nat} {u : SX} {v : SY} (I : i_Rel k u v) (hk : k + 3 ≤ 1536) : wpX_groups (fun r => wpY_groups (fun r' v' => r' = r ∧ i_Rel (k + 3) u v') v) u := by
  obtain ⟨m, d, t, w, st, ai, lb, hm, rfl, rfl, ⟨hd, hD⟩, hr⟩ := I
  unfold wpX_groups wpY_groups
  dsimp only
  refine ⟨m + 1, sx_grp_l hm ?_ m 0 0 (by omega) (fun j => ⟨fun h => ?_, fun h => ?_⟩)⟩
  · refine sy_join (st := st) hm (fun r h => (hr r h).2) (fun lb' L hV hF => ?_)
    refine ⟨m + 1, sy_grp_l hm (L := L) (fun a ha => ⟨(hV a ha).1, (hV a ha).2.1⟩) ⟨?_, sj_rel hm hd hD hr⟩ m 0 (by omega)⟩
    refine congrArg nI (sj_c_ext (fun j hj => ?_))
    have l1 := (hV j hj).2.1
    by_cases e : L j = j
    · rw [decide_eq_true e]
      refine (sj_new_t.mpr (fun a ha hrc => ?_)).symm
      have g := hF j hj a (sj_rc_c (sj_S_c t w st) hrc)
      omega
    · rw [decide_eq_false e]
      exact (sj_new_f (fun z => z (L j) (by omega) (sj_rc_c (sj_S_c t w st) (hV j hj).2.2))).symm
  · rw [b_0] at h
    exact absurd h (by decide)
  · obtain ⟨a, ha, _⟩ := h
    exact absurd ha (by omega)
end
