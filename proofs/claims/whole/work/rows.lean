section
/-! rows of the kit, pasted: numbers, branches, bits -/
theorem pk_us {f : Nat → Int32} {k : Nat} {x : Int32} : upd f k x k = x := if_pos rfl
theorem pk_un {f : Nat → Int32} {k j : Nat} {x : Int32} (h : j ≠ k) : upd f k x j = f j := if_neg h
theorem pk_sub {a b : Nat} (h : b ≤ a) : nI a - nI b = nI (a - b) := by
  obtain ⟨c, rfl⟩ : ∃ c, a = c + b := ⟨a - b, by omega⟩
  rw [← nI_add, Int32.add_sub_cancel, Nat.add_sub_cancel]
theorem pk_mul (a b : Nat) : nI a * nI b = nI (a * b) := (Int32.ofNat_mul a b).symm
theorem pk_div {a d : Nat} (ha : a < 2 ^ 31) (h0 : 0 < d) (hd : d < 2 ^ 31) : nI a / nI d = nI (a / d) := by
  apply Int32.toInt_inj.mp
  rw [lg_idiv_nonneg (by rw [nI_toInt ha]; omega) (by rw [nI_toInt hd]; omega), nI_toInt ha, nI_toInt hd, nI_toInt (Nat.lt_of_le_of_lt (Nat.div_le_self a d) ha)]
  first | rfl | exact (Int.natCast_ediv _ _).symm
theorem pk_ix (x : Int32) {n : Nat} (hn : n < 2 ^ 31) : x < 0 ∨ nI n ≤ x ∨ ∃ j : Nat, j < n ∧ x = nI j := by
  by_cases h : x < 0
  · exact Or.inl h
  · obtain ⟨j, hj, rfl⟩ := nI_of h
    by_cases h2 : j < n
    · exact Or.inr (Or.inr ⟨j, h2, rfl⟩)
    · exact Or.inr (Or.inl (nI_le (by omega) hj))
theorem pk_le {x y : Int32} {A B : Prop} (a b : Nat) (f : a ≤ b → A) (g : b < a → B) (hx : x = nI a := by rfl) (hy : y = nI b := by rfl) (ha : a < 2 ^ 31 := by omega) (hb : b < 2 ^ 31 := by omega) : (x ≤ y → A) ∧ (¬ x ≤ y → B) := by
  subst hx hy
  rw [nI_leI ha hb]
  exact ⟨f, fun z => g (by omega)⟩
theorem pk_lt {x y : Int32} {A B : Prop} (a b : Nat) (f : a < b → A) (g : b ≤ a → B) (hx : x = nI a := by rfl) (hy : y = nI b := by rfl) (ha : a < 2 ^ 31 := by omega) (hb : b < 2 ^ 31 := by omega) : (x < y → A) ∧ (¬ x < y → B) := by
  subst hx hy
  rw [nI_ltI ha hb]
  exact ⟨f, fun z => g (by omega)⟩
theorem pk_eq {x y : Int32} {A B : Prop} (a b : Nat) (f : a = b → A) (g : a ≠ b → B) (hx : x = nI a := by rfl) (hy : y = nI b := by rfl) (ha : a < 2 ^ 31 := by omega) (hb : b < 2 ^ 31 := by omega) : (x = y → A) ∧ (¬ x = y → B) := by
  subst hx hy
  rw [nI_eq ha hb]
  exact ⟨f, g⟩
theorem pk_in {x : Int32} (n N : Nat) (h : n < N) (hx : x = nI n := by rfl) (hN : N < 2 ^ 31 := by omega) : vp_in x N := by
  subst hx
  exact vp_in_nI h hN
theorem pk_cl {x : Int32} (n : Nat) (hx : x = nI n := by rfl) (h : n < 2 ^ 31 := by omega) : x.toNatClampNeg = n := by
  subst hx
  exact nI_clamp h
theorem pk_least (P : Nat → Prop) (h : ∃ k, P k) : ∃ k, P k ∧ ∀ j, j < k → ¬ P j := by
  obtain ⟨k, hk⟩ := h
  induction k using Nat.strongRecOn with
  | ind k ih =>
    by_cases e : ∃ j, j < k ∧ P j
    · obtain ⟨j, hj, pj⟩ := e
      exact ih j hj pj
    · exact ⟨k, hk, fun j hj pj => e ⟨j, hj, pj⟩⟩
def bt (x : Int32) (i : Nat) : Bool := x.toBitVec.getLsbD i
theorem b_ext {x y : Int32} (h : ∀ i, i < 32 → bt x i = bt y i) : x = y := Int32.toBitVec_inj.mp (BitVec.eq_of_getLsbD_eq (fun i hi => h i hi))
theorem b_or (x y : Int32) (i : Nat) : bt (x ||| y) i = (bt x i || bt y i) := by unfold bt; rw [Int32.toBitVec_or, BitVec.getLsbD_or]
theorem b_and (x y : Int32) (i : Nat) : bt (x &&& y) i = (bt x i && bt y i) := by unfold bt; rw [Int32.toBitVec_and, BitVec.getLsbD_and]
theorem b_xor (x y : Int32) (i : Nat) : bt (x ^^^ y) i = (bt x i ^^ bt y i) := by unfold bt; rw [Int32.toBitVec_xor, BitVec.getLsbD_xor]
theorem b_big {x : Int32} {i : Nat} (h : 32 ≤ i) : bt x i = false := BitVec.getLsbD_of_ge _ _ h
theorem b_m1 : ∀ i, i < 32 → bt (-1) i = true := by decide +kernel
theorem b_0 (i : Nat) : bt 0 i = false := BitVec.getLsbD_zero
theorem s_l : ∀ n, n < 32 → ((nI n &&& 31).toBitVec.smod 32).toNat = n := by decide +kernel
theorem b_shl (n : Nat) (hn : n < 32) (x : Int32) {i : Nat} (hi : i < 32) : bt (x <<< (nI n &&& 31)) i = (decide (n ≤ i) && bt x (i - n)) := by
  unfold bt
  rw [Int32.toBitVec_shiftLeft]
  show (x.toBitVec <<< ((nI n &&& 31).toBitVec.smod 32).toNat).getLsbD i = _
  rw [s_l n hn, BitVec.getLsbD_shiftLeft]
  rcases Nat.lt_or_ge i n with h | h
  · simp [h, Nat.not_le.mpr h]
  · simp [hi, h, Nat.not_lt.mpr h]
theorem b_sshr (n : Nat) (hn : n < 32) (x : Int32) {i : Nat} (hi : i < 32) : bt (x >>> (nI n &&& 31)) i = if n + i < 32 then bt x (n + i) else bt x 31 := by
  unfold bt
  rw [Int32.toBitVec_shiftRight]
  show (x.toBitVec.sshiftRight ((nI n &&& 31).toBitVec.smod 32).toNat).getLsbD i = _
  rw [s_l n hn, BitVec.getLsbD_sshiftRight, BitVec.msb_eq_getLsbD_last]
  simp [hi]
end
section
/-! counting, sums, sets as bits: no walk here -/
/-- how many of the first n are true -/
def sj_c (f : Nat → Bool) : Nat → Nat
  | 0 => 0
  | n + 1 => sj_c f n + (f n).toNat
theorem sj_c_f {f : Nat → Bool} {n : Nat} (h : f n = false) : sj_c f (n + 1) = sj_c f n := by
  show sj_c f n + (f n).toNat = _
  rw [h]; rfl
theorem sj_c_t {f : Nat → Bool} {n : Nat} (h : f n = true) : sj_c f (n + 1) = sj_c f n + 1 := by
  show sj_c f n + (f n).toNat = _
  rw [h]; rfl
theorem sj_c_le (f : Nat → Bool) (n : Nat) : sj_c f n ≤ n := by
  induction n with
  | zero => exact Nat.le_refl 0
  | succ n ih =>
    cases h : f n
    · rw [sj_c_f h]; omega
    · rw [sj_c_t h]; omega
theorem sj_c_ext {f g : Nat → Bool} {n : Nat} (h : ∀ i, i < n → f i = g i) : sj_c f n = sj_c g n := by
  induction n with
  | zero => rfl
  | succ n ih =>
    show sj_c f n + (f n).toNat = sj_c g n + (g n).toNat
    rw [ih (fun i hi => h i (by omega)), h n (by omega)]
theorem sj_c_mono {f g : Nat → Bool} {n : Nat} (h : ∀ i, i < n → f i = true → g i = true) : sj_c f n ≤ sj_c g n := by
  induction n with
  | zero => exact Nat.le_refl 0
  | succ n ih =>
    have a := ih (fun i hi => h i (by omega))
    cases hf : f n
    · rw [sj_c_f hf]
      cases hg : g n
      · rw [sj_c_f hg]; exact a
      · rw [sj_c_t hg]; omega
    · rw [sj_c_t hf, sj_c_t (h n (by omega) hf)]; omega
theorem sj_c_lt {f g : Nat → Bool} {n k : Nat} (h : ∀ i, i < n → f i = true → g i = true) (hk : k < n) (hf : f k = false) (hg : g k = true) : sj_c f n < sj_c g n := by
  induction n with
  | zero => omega
  | succ n ih =>
    by_cases e : k = n
    · subst e
      have a := sj_c_mono (n := k) (fun i hi => h i (by omega))
      rw [sj_c_f hf, sj_c_t hg]; omega
    · have a := ih (fun i hi => h i (by omega)) (by omega)
      cases hf2 : f n
      · rw [sj_c_f hf2]
        cases hg2 : g n
        · rw [sj_c_f hg2]; exact a
        · rw [sj_c_t hg2]; omega
      · rw [sj_c_t hf2, sj_c_t (h n (by omega) hf2)]; omega
theorem sj_c_tail {f : Nat → Bool} {n N : Nat} (hn : n ≤ N) (h : ∀ i, n ≤ i → f i = false) : sj_c f N = sj_c f n := by
  induction N with
  | zero => obtain rfl : n = 0 := by omega
            rfl
  | succ N ih =>
    by_cases e : n = N + 1
    · rw [e]
    · rw [sj_c_f (h N (by omega))]; exact ih (by omega)
theorem sj_c_set {f g : Nat → Bool} {n k : Nat} (hk : k < n) (hf : f k = false) (hg : g k = true) (h : ∀ i, i ≠ k → g i = f i) : sj_c g n = sj_c f n + 1 := by
  induction n with
  | zero => omega
  | succ n ih =>
    by_cases e : k = n
    · subst e
      rw [sj_c_f hf, sj_c_t hg, sj_c_ext (f := g) (g := f) (fun i hi => h i (by omega))]
    · have a := ih (by omega)
      have b : g n = f n := h n (fun z => e z.symm)
      cases hf2 : f n
      · rw [sj_c_f hf2, sj_c_f (b.trans hf2)]; exact a
      · rw [sj_c_t hf2, sj_c_t (b.trans hf2)]; omega
theorem sj_c_full {f : Nat → Bool} {n : Nat} (h : sj_c f n = n) : ∀ i, i < n → f i = true := by
  induction n with
  | zero => intro i hi; omega
  | succ n ih =>
    have a := sj_c_le f n
    cases hf : f n
    · rw [sj_c_f hf] at h; omega
    · rw [sj_c_t hf] at h
      intro i hi
      by_cases e : i = n
      · rw [e]; exact hf
      · exact ih (by omega) i (by omega)
theorem sj_c_none {f : Nat → Bool} {n : Nat} (h : sj_c f n = 0) : ∀ i, i < n → f i = false := by
  intro i hi
  cases hf : f i
  · rfl
  · have a := sj_c_lt (f := fun _ => false) (g := f) (n := n) (k := i) (fun _ _ z => nomatch z) hi rfl hf
    omega
theorem sj_c_zero {f : Nat → Bool} {n : Nat} (h : ∀ i, i < n → f i = false) : sj_c f n = 0 := by
  induction n with
  | zero => rfl
  | succ n ih => rw [sj_c_f (h n (by omega))]; exact ih (fun i hi => h i (by omega))
theorem sj_c_eq {f g : Nat → Bool} {n : Nat} (h : ∀ i, i < n → f i = true → g i = true) (e : sj_c f n = sj_c g n) : ∀ i, i < n → f i = g i := by
  intro i hi
  cases hf : f i
  · cases hg : g i
    · rfl
    · have a := sj_c_lt h hi hf hg
      omega
  · exact (h i hi hf).symm
/-- a sum -/
def sj_s (g : Nat → Nat) : Nat → Nat
  | 0 => 0
  | n + 1 => sj_s g n + g n
theorem sj_s_ext {g h : Nat → Nat} {n : Nat} (e : ∀ i, i < n → g i = h i) : sj_s g n = sj_s h n := by
  induction n with
  | zero => rfl
  | succ n ih =>
    show sj_s g n + g n = sj_s h n + h n
    rw [ih (fun i hi => e i (by omega)), e n (by omega)]
theorem sj_s_c (g : Nat → Nat) (f : Nat → Bool) (n : Nat) : sj_s (fun a => g a + (f a).toNat) n = sj_s g n + sj_c f n := by
  induction n with
  | zero => rfl
  | succ n ih =>
    show sj_s (fun a => g a + (f a).toNat) n + (g n + (f n).toNat) = (sj_s g n + g n) + (sj_c f n + (f n).toNat)
    rw [ih]; omega
theorem sj_s_le {g : Nat → Nat} {n c : Nat} (h : ∀ i, i < n → g i ≤ c) : sj_s g n ≤ n * c := by
  induction n with
  | zero => exact Nat.zero_le _
  | succ n ih =>
    have a := ih (fun i hi => h i (by omega))
    have b := h n (by omega)
    show sj_s g n + g n ≤ _
    rw [Nat.succ_mul]; omega
/-- pairs from both sides are twice the pairs from one -/
theorem sj_pairs (T : Nat → Nat → Bool) (hs : ∀ a b, T a b = T b a) (h0 : ∀ a, T a a = false) (n : Nat) :
    sj_s (fun a => sj_c (T a) n) n = 2 * sj_s (fun a => sj_c (fun b => decide (a < b) && T a b) n) n := by
  induction n with
  | zero => rfl
  | succ n ih =>
    have e1 : sj_s (fun a => sj_c (T a) (n + 1)) (n + 1) = sj_s (fun a => sj_c (T a) n) n + sj_c (T n) n + sj_c (T n) n := by
      show sj_s (fun a => sj_c (T a) n + (T a n).toNat) n + sj_c (T n) (n + 1) = _
      rw [sj_s_c (fun a => sj_c (T a) n) (fun a => T a n) n, sj_c_f (h0 n), sj_c_ext (f := fun a => T a n) (g := T n) (fun i _ => hs i n)]
    have e2 : sj_s (fun a => sj_c (fun b => decide (a < b) && T a b) (n + 1)) (n + 1) = sj_s (fun a => sj_c (fun b => decide (a < b) && T a b) n) n + sj_c (T n) n := by
      show sj_s (fun a => sj_c (fun b => decide (a < b) && T a b) n + (decide (a < n) && T a n).toNat) n + sj_c (fun b => decide (n < b) && T n b) (n + 1) = _
      rw [sj_s_c (fun a => sj_c (fun b => decide (a < b) && T a b) n) (fun a => decide (a < n) && T a n) n]
      rw [sj_c_zero (f := fun b => decide (n < b) && T n b) (fun i hi => by
        show (decide (n < i) && T n i) = false
        rw [decide_eq_false (by omega), Bool.false_and])]
      rw [sj_c_ext (f := fun a => decide (a < n) && T a n) (g := T n) (fun i hi => by
        show (decide (i < n) && T i n) = T n i
        rw [decide_eq_true hi, Bool.true_and, hs])]
      rfl
    rw [e1, e2, ih]; omega
/-- a truth value as an int -/
def sj_b (b : Bool) : Int32 := nI b.toNat
theorem sj_1 : ∀ j, j < 32 → bt 1 j = decide (j = 0) := by decide +kernel
theorem sj_bb : ∀ b : Bool, ∀ j, j < 32 → bt (sj_b b) j = (b && decide (j = 0)) := by decide +kernel
theorem sj_bit (x : Int32) {i : Nat} (hi : i < 32) : (x >>> (nI i &&& 31)) &&& 1 = sj_b (bt x i) := by
  apply b_ext
  intro j hj
  rw [b_and, b_sshr i hi x hj, sj_1 j hj, sj_bb _ j hj]
  by_cases e : j = 0
  · subst e
    rw [if_pos (by omega)]; rfl
  · rw [decide_eq_false e, Bool.and_false, Bool.and_false]
theorem sj_one {k : Nat} (hk : k < 32) (i : Nat) : bt ((1 : Int32) <<< (nI k &&& 31)) i = decide (i = k) := by
  by_cases hi : i < 32
  · rw [b_shl k hk 1 hi, sj_1 (i - k) (by omega)]
    by_cases e : i = k
    · subst e
      rw [decide_eq_true (Nat.le_refl i), decide_eq_true (by omega), decide_eq_true rfl]; rfl
    · rw [decide_eq_false e]
      by_cases l : k ≤ i
      · rw [decide_eq_false (p := i - k = 0) (by omega), Bool.and_false]
      · rw [decide_eq_false l, Bool.false_and]
  · rw [b_big (by omega), decide_eq_false (by omega)]
theorem sj_not (x : Int32) {i : Nat} (hi : i < 32) : bt (x ^^^ (-1)) i = !bt x i := by
  rw [b_xor, b_m1 i hi, Bool.xor_true]
theorem sj_on (d : Int32) {k : Nat} (hk : k < 32) (i : Nat) : bt (d ||| ((1 : Int32) <<< (nI k &&& 31))) i = (bt d i || decide (i = k)) := by
  rw [b_or, sj_one hk]
theorem sj_off (d : Int32) {k : Nat} (hk : k < 32) (i : Nat) : bt (d &&& (((1 : Int32) <<< (nI k &&& 31)) ^^^ (-1))) i = (bt d i && !decide (i = k)) := by
  by_cases hi : i < 32
  · rw [b_and, sj_not _ hi, sj_one hk]
  · rw [b_and, b_big (x := d) (by omega), Bool.false_and, Bool.false_and]
theorem sj_minus (a b : Int32) (i : Nat) : bt (a &&& (b ^^^ (-1))) i = (bt a i && !bt b i) := by
  by_cases hi : i < 32
  · rw [b_and, sj_not _ hi]
  · rw [b_and, b_big (x := a) (by omega), Bool.false_and, Bool.false_and]
theorem sj_br {b : Bool} {A B : Prop} (f : b = false → A) (g : b = true → B) : (sj_b b = 0 → A) ∧ (¬ sj_b b = 0 → B) := by
  cases b
  · exact br_t (by decide) (f rfl)
  · exact br_f (by decide) (g rfl)
theorem sj_lt {x y : Int32} {post : Int32 → Prop} (hp : post (sj_b (!decide (x < y)))) : (x < y → post 0) ∧ (¬ x < y → post 1) := by
  by_cases h : x < y
  · rw [decide_eq_true h] at hp; exact br_t h hp
  · rw [decide_eq_false h] at hp; exact br_f h hp
theorem sj_nar (b : Bool) : vp_nar .boolean (sj_b b) = sj_b b := by cases b <;> decide
/-- the number of members of a set of tokens (or of records) -/
def sj_n (s : Int32) : Nat := sj_c (bt s) 30
theorem sj_n_le (s : Int32) : sj_n s ≤ 30 := sj_c_le _ 30
/-- are two sets similar -/
def sj_sim (t w a b : Int32) : Bool := !decide (w * nI (sj_n (a &&& b)) < t * nI (sj_n (a ||| b)))
theorem sj_sim_comm (t w a b : Int32) : sj_sim t w a b = sj_sim t w b a := by
  unfold sj_sim
  rw [Int32.and_comm a b, Int32.or_comm a b]
end
section
/-! the private methods, each with a general post -/
theorem sx_tok_no {post : Int32 → Prop} {p : Int32} (h : p < 0 ∨ nI 30 ≤ p) (hp : post 0) : wpX_isToken post p := by
  by_cases h0 : p < 0
  · exact br_t h0 hp
  · exact br_f h0 (br_t (h.resolve_left h0) hp)
theorem sx_tok_ok {post : Int32 → Prop} {j : Nat} (hj : j < 30) (hp : post 1) : wpX_isToken post (nI j) :=
  br_f (nI_pos (by omega)) (pk_le 30 j (fun h => absurd h (by omega)) (fun _ => hp))
theorem sx_rec_no {post : Int32 → Prop} {m : Nat} {d t w : Int32} {st : Nat → Int32} {p : Int32} (h : p < 0 ∨ nI m ≤ p) (hp : post 0) : wpX_isRecord post (nI m, d, t, w, st) p := by
  by_cases h0 : p < 0
  · exact br_t h0 hp
  · exact br_f h0 (br_t (h.resolve_left h0) hp)
theorem sx_rec_ok {post : Int32 → Prop} {m : Nat} {d t w : Int32} {st : Nat → Int32} {j : Nat} (hm : m ≤ 20) (hj : j < m) (hp : post 1) : wpX_isRecord post (nI m, d, t, w, st) (nI j) :=
  br_f (nI_pos (by omega)) (pk_le m j (fun h => absurd h (by omega)) (fun _ => hp))
theorem sy_bad_no {post : Int32 → Prop} {m : Nat} {t w : Int32} {ai lb : Nat → Int32} {p : Int32} (h : p < 0 ∨ nI m ≤ p) (hp : post 1) : wpY_bad post (nI m, t, w, ai, lb) p := by
  by_cases h0 : p < 0
  · exact br_t h0 hp
  · exact br_f h0 (br_t (h.resolve_left h0) hp)
theorem sy_bad_ok {post : Int32 → Prop} {m : Nat} {t w : Int32} {ai lb : Nat → Int32} {j : Nat} (hm : m ≤ 20) (hj : j < m) (hp : post 0) : wpY_bad post (nI m, t, w, ai, lb) (nI j) :=
  br_f (nI_pos (by omega)) (pk_le m j (fun h => absurd h (by omega)) (fun _ => pk_lt j 20 (fun _ => hp) (fun h => absurd h (by omega))))
theorem sy_tok_no {post : Int32 → Prop} {u : SY} {p : Int32} (h : p < 0 ∨ nI 30 ≤ p) (hp : post 1) : wpY_badToken post u p := by
  obtain ⟨c, t, w, ai, lb⟩ := u
  by_cases h0 : p < 0
  · exact br_t h0 hp
  · have h1 : nI 30 ≤ p := h.resolve_left h0
    have h2 : ¬ p ≤ 29 := fun z => absurd (Int32.le_trans h1 z) (by decide)
    exact br_f h0 (br_f h2 hp)
theorem sy_tok_ok {post : Int32 → Prop} {u : SY} {j : Nat} (hj : j < 30) (hp : post 0) : wpY_badToken post u (nI j) := by
  obtain ⟨c, t, w, ai, lb⟩ := u
  exact br_f (nI_pos (by omega)) (pk_le j 29 (fun _ => hp) (fun h => absurd h (by omega)))
theorem sx_in {post : Int32 → Prop} {s : Int32} {i : Nat} (hi : i < 32) (hp : post (sj_b (bt s i))) : wpX_isIn post s (nI i) := by
  unfold wpX_isIn
  rw [sj_bit s hi]
  cases h : bt s i
  · rw [h] at hp; exact br_f (by decide) hp
  · rw [h] at hp; exact br_t (by decide) hp
theorem sx_count_l {post : Int32 → Prop} (s : Int32) (hp : post (nI (sj_n s))) : ∀ d i : Nat, i + d = 30 → wX_countOf_4 post s (d + 1) (nI (sj_c (bt s) i)) (nI i) := by
  intro d
  induction d with
  | zero =>
    intro i hi
    obtain rfl : i = 30 := by omega
    exact pk_le 30 30 (fun _ => hp) (fun h => absurd h (by omega))
  | succ d ih =>
    intro i hi
    refine pk_le 30 i (fun h => absurd h (by omega)) (fun _ => ?_)
    refine nm_r (e' := nI (sj_c (bt s) (i + 1))) ?_ (nm_r (nI_1 i) (ih (i + 1) (by omega)))
    rw [sj_bit s (by omega)]
    exact nI_add _ _
theorem sx_count {post : Int32 → Prop} {s : Int32} (hp : post (nI (sj_n s))) : wpX_countOf post s := ⟨31, sx_count_l s hp 30 0 rfl⟩
theorem sx_sim {post : Int32 → Prop} {c d t w a b : Int32} {st : Nat → Int32} (hp : post (sj_b (sj_sim t w a b))) : wpX_areSimilar post (c, d, t, w, st) a b := by
  unfold wpX_areSimilar
  dsimp only
  exact sx_count (sx_count (sj_lt hp))
/-- the least member below 20 -/
theorem sx_least_l {post : Int32 → Prop} (s : Int32) (h0 : (∀ j, j < 20 → bt s j = false) → post (-1)) (h1 : ∀ r, r < 20 → bt s r = true → (∀ j, j < r → bt s j = false) → post (nI r)) : ∀ d i : Nat, i + d = 20 → (∀ j, j < i → bt s j = false) → wX_leastOf_2 post s (d + 1) (nI i) := by
  intro d
  induction d with
  | zero =>
    intro i hi hn
    obtain rfl : i = 20 := by omega
    exact pk_le 20 20 (fun _ => h0 hn) (fun h => absurd h (by omega))
  | succ d ih =>
    intro i hi hn
    refine pk_le 20 i (fun h => absurd h (by omega)) (fun _ => sx_in (by omega) (sj_br (fun hb => ?_) (fun hb => ?_)))
    · refine nm_r (nI_1 i) (ih (i + 1) (by omega) (fun j hj => ?_))
      by_cases e : j = i
      · rw [e]; exact hb
      · exact hn j (by omega)
    · exact h1 i (by omega) hb hn
theorem sx_least {post : Int32 → Prop} {s : Int32} (h0 : (∀ j, j < 20 → bt s j = false) → post (-1)) (h1 : ∀ r, r < 20 → bt s r = true → (∀ j, j < r → bt s j = false) → post (nI r)) : wpX_leastOf post s :=
  ⟨21, sx_least_l s h0 h1 20 0 rfl (fun j hj => absurd hj (by omega))⟩
/-- the set of the records similar to a set -/
def sj_M (m : Nat) (f : Nat → Bool) (R : Int32) : Prop := ∀ j, bt R j = (decide (j < m) && f j)
theorem sx_sims_l {post : Int32 → Prop} {m : Nat} (hm : m ≤ 20) {d t w s : Int32} {st : Nat → Int32} (hp : ∀ R, sj_M m (fun j => sj_sim t w s (st j)) R → post R) : ∀ e i R, i + e = m → sj_M i (fun j => sj_sim t w s (st j)) R → wX_recordsSimilarTo_4 post s (nI m) d t w st (e + 1) R (nI i) := by
  intro e
  induction e with
  | zero =>
    intro i R hi hR
    obtain rfl : i = m := by omega
    exact pk_le i i (fun _ => hp R hR) (fun h => absurd h (by omega))
  | succ e ih =>
    intro i R hi hR
    refine pk_le m i (fun h => absurd h (by omega)) (fun _ => ⟨vp_in_nI (by omega) (by omega), ?_⟩)
    rw [nI_clamp (n := i) (by omega)]
    refine sx_sim (sj_br (fun hb => ?_) (fun hb => ?_))
    · refine nm_r (nI_1 i) (ih (i + 1) R (by omega) (fun j => ?_))
      rw [hR j]
      by_cases e1 : j = i
      · subst e1
        dsimp only
        rw [hb, Bool.and_false, Bool.and_false]
      · rw [show decide (j < i) = decide (j < i + 1) from decide_eq_decide.mpr (by omega)]
    · refine nm_e (nm_r (nI_1 i) (ih (i + 1) _ (by omega) (fun j => ?_)))
      rw [sj_on R (by omega), hR j]
      by_cases e1 : j = i
      · subst e1
        dsimp only
        rw [hb, decide_eq_true (p := j = j) rfl, decide_eq_true (p := j < j + 1) (by omega), Bool.or_true]; rfl
      · rw [decide_eq_false e1, Bool.or_false, show decide (j < i) = decide (j < i + 1) from decide_eq_decide.mpr (by omega)]
theorem sx_sims {post : Int32 → Prop} {m : Nat} (hm : m ≤ 20) {d t w s : Int32} {st : Nat → Int32} (hp : ∀ R, sj_M m (fun j => sj_sim t w s (st j)) R → post R) : wpX_recordsSimilarTo post (nI m, d, t, w, st) s :=
  ⟨m + 1, sx_sims_l hm hp m 0 0 (by omega) (fun j => by rw [b_0, decide_eq_false (by omega), Bool.false_and])⟩
/-- the others that are similar to record q -/
theorem sx_oth {post : Int32 → Prop} {m q : Nat} (hm : m ≤ 20) (hq : q < m) {d t w : Int32} {st : Nat → Int32} (hp : ∀ R, sj_M m (fun j => sj_sim t w (st q) (st j) && !decide (j = q)) R → post R) : wpX_othersSimilarTo post (nI m, d, t, w, st) (nI q) := by
  unfold wpX_othersSimilarTo
  dsimp only
  refine ⟨vp_in_nI (by omega) (by omega), ?_⟩
  rw [nI_clamp (n := q) (by omega)]
  refine sx_sims hm (fun R hR => hp _ (fun j => ?_))
  rw [sj_off R (by omega), hR j, Bool.and_assoc]
theorem sj_M_n {m : Nat} (hm : m ≤ 20) {f : Nat → Bool} {R : Int32} (h : sj_M m f R) : sj_n R = sj_c f m := by
  unfold sj_n
  rw [sj_c_tail (n := m) (by omega) (fun i hi => by rw [h i, decide_eq_false (by omega), Bool.false_and])]
  exact sj_c_ext (fun i hi => by rw [h i, decide_eq_true hi, Bool.true_and])
theorem sj_M_b {m : Nat} {f : Nat → Bool} {R : Int32} (h : sj_M m f R) {j : Nat} (hj : j < m) : bt R j = f j := by
  rw [h j, decide_eq_true hj, Bool.true_and]
/-! the reference's table -/
def sj_Row (ai : Nat → Int32) (r : Nat) (s : Int32) : Prop := ∀ x, x < 30 → ai (30 * r + x) = sj_b (bt s x)
theorem sj_ix (r x : Nat) : (30 : Int32) * nI r + nI x = nI (30 * r + x) := by
  show nI 30 * nI r + nI x = _
  rw [pk_mul, nI_add]
theorem sj_i6 (x : Nat) : (600 : Int32) + nI x = nI (30 * 20 + x) := nI_add 600 x
theorem sy_rd {A B : Prop} {ai : Nat → Int32} {r x : Nat} {s e : Int32} (hr : r ≤ 20) (hx : x < 30) (h : sj_Row ai r s) (he : e = nI (30 * r + x)) (f : bt s x = false → A) (g : bt s x = true → B) : vp_in e 630 ∧ ((ai e.toNatClampNeg = 0 → A) ∧ (¬ ai e.toNatClampNeg = 0 → B)) := by
  subst he
  rw [nI_clamp (by omega), h x hx]
  exact ⟨vp_in_nI (by omega) (by omega), sj_br f g⟩
theorem sy_size_l {post : Int32 → Prop} {c t w : Int32} {ai lb : Nat → Int32} {r : Nat} {s : Int32} (hr : r ≤ 20) (h : sj_Row ai r s) (hp : post (nI (sj_n s))) : ∀ d i : Nat, i + d = 30 → wY_sizeOf_4 post (nI r) c t w ai lb (d + 1) (nI (sj_c (bt s) i)) (nI i) := by
  intro d
  induction d with
  | zero =>
    intro i hi
    obtain rfl : i = 30 := by omega
    exact pk_le 30 30 (fun _ => hp) (fun h => absurd h (by omega))
  | succ d ih =>
    intro i hi
    refine pk_le 30 i (fun h => absurd h (by omega)) (fun _ => sy_rd hr (by omega) h (sj_ix r i) (fun hb => ?_) (fun hb => ?_))
    · refine nm_r (nI_1 i) ?_
      rw [← sj_c_f hb]
      exact ih (i + 1) (by omega)
    · refine nm_r (e' := nI (sj_c (bt s) (i + 1))) ?_ (nm_r (nI_1 i) (ih (i + 1) (by omega)))
      rw [sj_c_t hb]
      exact nI_1 _
theorem sy_size {post : Int32 → Prop} {c t w : Int32} {ai lb : Nat → Int32} {r : Nat} {s : Int32} (hr : r ≤ 20) (h : sj_Row ai r s) (hp : post (nI (sj_n s))) : wpY_sizeOf post (c, t, w, ai, lb) (nI r) :=
  ⟨31, sy_size_l hr h hp 30 0 rfl⟩
theorem sy_both_l {post : Int32 → Prop} {c t w : Int32} {ai lb : Nat → Int32} {r q : Nat} {a b : Int32} (hr : r ≤ 20) (hq : q ≤ 20) (h : sj_Row ai r a) (g : sj_Row ai q b) (hp : post (nI (sj_n (a &&& b)))) : ∀ d i : Nat, i + d = 30 → wY_both_5 post (nI r) (nI q) c t w ai lb (d + 1) (nI (sj_c (bt (a &&& b)) i)) (nI i) := by
  intro d
  induction d with
  | zero =>
    intro i hi
    obtain rfl : i = 30 := by omega
    exact pk_le 30 30 (fun _ => hp) (fun h => absurd h (by omega))
  | succ d ih =>
    intro i hi
    refine pk_le 30 i (fun h => absurd h (by omega)) (fun _ => sy_rd hr (by omega) h (sj_ix r i) (fun ha => ?_) (fun ha => sy_rd hq (by omega) g (sj_ix q i) (fun hb => ?_) (fun hb => ?_)))
    · refine nm_r (nI_1 i) ?_
      rw [← sj_c_f (f := bt (a &&& b)) (n := i) (by rw [b_and, ha, Bool.false_and])]
      exact ih (i + 1) (by omega)
    · refine nm_r (nI_1 i) ?_
      rw [← sj_c_f (f := bt (a &&& b)) (n := i) (by rw [b_and, hb, Bool.and_false])]
      exact ih (i + 1) (by omega)
    · refine nm_r (e' := nI (sj_c (bt (a &&& b)) (i + 1))) ?_ (nm_r (nI_1 i) (ih (i + 1) (by omega)))
      rw [sj_c_t (f := bt (a &&& b)) (n := i) (by rw [b_and, ha, hb]; rfl)]
      exact nI_1 _
theorem sy_both {post : Int32 → Prop} {c t w : Int32} {ai lb : Nat → Int32} {r q : Nat} {a b : Int32} (hr : r ≤ 20) (hq : q ≤ 20) (h : sj_Row ai r a) (g : sj_Row ai q b) (hp : post (nI (sj_n (a &&& b)))) : wpY_both post (c, t, w, ai, lb) (nI r) (nI q) :=
  ⟨31, sy_both_l hr hq h g hp 30 0 rfl⟩
theorem sy_either_l {post : Int32 → Prop} {c t w : Int32} {ai lb : Nat → Int32} {r q : Nat} {a b : Int32} (hr : r ≤ 20) (hq : q ≤ 20) (h : sj_Row ai r a) (g : sj_Row ai q b) (hp : post (nI (sj_n (a ||| b)))) : ∀ d i : Nat, i + d = 30 → wY_either_5 post (nI r) (nI q) c t w ai lb (d + 1) (nI (sj_c (bt (a ||| b)) i)) (nI i) := by
  intro d
  induction d with
  | zero =>
    intro i hi
    obtain rfl : i = 30 := by omega
    exact pk_le 30 30 (fun _ => hp) (fun h => absurd h (by omega))
  | succ d ih =>
    intro i hi
    refine pk_le 30 i (fun h => absurd h (by omega)) (fun _ => sy_rd hr (by omega) h (sj_ix r i) (fun ha => sy_rd hq (by omega) g (sj_ix q i) (fun hb => ?_) (fun hb => ?_)) (fun ha => ?_))
    · refine nm_r (nI_1 i) ?_
      rw [← sj_c_f (f := bt (a ||| b)) (n := i) (by rw [b_or, ha, hb]; rfl)]
      exact ih (i + 1) (by omega)
    · refine nm_r (e' := nI (sj_c (bt (a ||| b)) (i + 1))) ?_ (nm_r (nI_1 i) (ih (i + 1) (by omega)))
      rw [sj_c_t (f := bt (a ||| b)) (n := i) (by rw [b_or, hb, Bool.or_true])]
      exact nI_1 _
    · refine nm_r (e' := nI (sj_c (bt (a ||| b)) (i + 1))) ?_ (nm_r (nI_1 i) (ih (i + 1) (by omega)))
      rw [sj_c_t (f := bt (a ||| b)) (n := i) (by rw [b_or, ha, Bool.true_or])]
      exact nI_1 _
theorem sy_either {post : Int32 → Prop} {c t w : Int32} {ai lb : Nat → Int32} {r q : Nat} {a b : Int32} (hr : r ≤ 20) (hq : q ≤ 20) (h : sj_Row ai r a) (g : sj_Row ai q b) (hp : post (nI (sj_n (a ||| b)))) : wpY_either post (c, t, w, ai, lb) (nI r) (nI q) :=
  ⟨31, sy_either_l hr hq h g hp 30 0 rfl⟩
theorem sy_alike {post : Int32 → Prop} {c t w : Int32} {ai lb : Nat → Int32} {r q : Nat} {a b : Int32} (hr : r ≤ 20) (hq : q ≤ 20) (h : sj_Row ai r a) (g : sj_Row ai q b) (hp : post (sj_b (sj_sim t w a b))) : wpY_alike post (c, t, w, ai, lb) (nI r) (nI q) := by
  unfold wpY_alike
  dsimp only
  exact sy_both hr hq h g (sy_either hr hq h g (sj_lt hp))
/-- copy row r to row q -/
theorem sy_copy_l {post : SY → Prop} {c t w : Int32} {ai lb : Nat → Int32} {r q : Nat} {s : Int32} (hr : r ≤ 20) (hq : q ≤ 20) (hn : r ≠ q) (h : sj_Row ai r s) (hp : ∀ ai' : Nat → Int32, sj_Row ai' q s → (∀ j, (j < 30 * q ∨ 30 * q + 30 ≤ j) → ai' j = ai j) → post (c, t, w, ai', lb)) : ∀ (d i : Nat) (ai' : Nat → Int32), i + d = 30 → (∀ x, x < i → ai' (30 * q + x) = sj_b (bt s x)) → (∀ j, (j < 30 * q ∨ 30 * q + 30 ≤ j) → ai' j = ai j) → wY_copy_2 post (nI r) (nI q) c t w (d + 1) (nI i) ai' lb := by
  intro d
  induction d with
  | zero =>
    intro i ai' hi h1 h2
    obtain rfl : i = 30 := by omega
    exact pk_le 30 30 (fun _ => hp ai' h1 h2) (fun h => absurd h (by omega))
  | succ d ih =>
    intro i ai' hi h1 h2
    refine pk_le 30 i (fun h => absurd h (by omega)) (fun _ => ?_)
    rw [sj_ix r i, sj_ix q i]
    refine ⟨vp_in_nI (by omega) (by omega), vp_in_nI (by omega) (by omega), ?_⟩
    rw [nI_clamp (n := 30 * r + i) (by omega), nI_clamp (n := 30 * q + i) (by omega), h2 (30 * r + i) (by omega), h i (by omega), sj_nar]
    refine nm_e (nm_r (nI_1 i) (ih (i + 1) _ (by omega) (fun x hx => ?_) (fun j hj => ?_)))
    · by_cases e : x = i
      · rw [e, pk_us]
      · rw [pk_un (by omega)]; exact h1 x (by omega)
    · rw [pk_un (by omega)]; exact h2 j hj
theorem sy_copy {post : SY → Prop} {c t w : Int32} {ai lb : Nat → Int32} {r q : Nat} {s : Int32} (hr : r ≤ 20) (hq : q ≤ 20) (hn : r ≠ q) (h : sj_Row ai r s) (hp : ∀ ai' : Nat → Int32, sj_Row ai' q s → (∀ j, (j < 30 * q ∨ 30 * q + 30 ≤ j) → ai' j = ai j) → post (c, t, w, ai', lb)) : wpY_copy post (c, t, w, ai, lb) (nI r) (nI q) :=
  ⟨31, sy_copy_l hr hq hn h hp 30 0 ai rfl (fun x hx => absurd hx (by omega)) (fun _ _ => rfl)⟩
theorem sj_Row_k {ai ai' : Nat → Int32} {r : Nat} {s : Int32} (h : sj_Row ai r s) (e : ∀ x, x < 30 → ai' (30 * r + x) = ai (30 * r + x)) : sj_Row ai' r s :=
  fun x hx => (e x hx).trans (h x hx)
end
section
/-! the relation, and the methods that change something -/
/-- a set of tokens: no bit beyond 29, at most 12 members -/
def sj_Ok (s : Int32) : Prop := (∀ x, 30 ≤ x → bt s x = false) ∧ sj_n s ≤ 12
/-- row 20 of the reference's table is the draft, row r is record r; the rest is held alike -/
def i_Rel (k : Nat) (u : SX) (v : SY) : Prop := ∃ (m : Nat) (d t w : Int32) (st ai lb : Nat → Int32), m ≤ 20 ∧ u = (nI m, d, t, w, st) ∧ v = (nI m, t, w, ai, lb) ∧ (sj_Ok d ∧ sj_Row ai 20 d) ∧ ∀ r, r < m → sj_Ok (st r) ∧ sj_Row ai r (st r)
theorem i_up {k : Nat} {u : SX} {v : SY} (h : i_Rel k u v) : i_Rel (k + 3) u v := h
theorem sj_rel {k m : Nat} {d t w : Int32} {st ai lb : Nat → Int32} (hm : m ≤ 20) (h : sj_Ok d) (hD : sj_Row ai 20 d) (hr : ∀ r, r < m → sj_Ok (st r) ∧ sj_Row ai r (st r)) : i_Rel k (nI m, d, t, w, st) (nI m, t, w, ai, lb) :=
  ⟨m, d, t, w, st, ai, lb, hm, rfl, rfl, ⟨h, hD⟩, hr⟩
theorem sj_ok0 : sj_Ok 0 := ⟨fun x _ => b_0 x, by decide +kernel⟩
theorem i_vc0 : wpX_init (fun u => wpY_init (fun v => i_Rel 0 u v)) :=
  sj_rel (k := 0) (m := 0) (by omega) sj_ok0 (fun x _ => by rw [b_0]; rfl) (fun r hr => absurd hr (by omega))
theorem sj_two (p : Int32) {n : Nat} (hn : n < 2 ^ 31) : (p < 0 ∨ nI n ≤ p) ∨ ∃ j : Nat, j < n ∧ p = nI j := by
  rcases pk_ix p hn with h | h | h
  · exact Or.inl (Or.inl h)
  · exact Or.inl (Or.inr h)
  · exact Or.inr h
/-- one cell of the draft's row is written -/
theorem sy_put {P : (Nat → Int32) → Prop} {ai : Nat → Int32} {d g : Int32} {j : Nat} (b : Bool) (hj : j < 30) (hD : sj_Row ai 20 d) (hg : ∀ x, x < 30 → bt g x = if x = j then b else bt d x) (hp : ∀ ai' : Nat → Int32, sj_Row ai' 20 g → (∀ i, i < 600 → ai' i = ai i) → P ai') : vp_in ((600 : Int32) + nI j) 630 ∧ ∀ a' : Nat → Int32, a' = upd ai ((600 : Int32) + nI j).toNatClampNeg (vp_nar .boolean (sj_b b)) → P a' := by
  rw [sj_i6, nI_clamp (by omega), sj_nar]
  refine ⟨vp_in_nI (by omega) (by omega), nm_e (hp _ (fun x hx => ?_) (fun i hi => pk_un (by omega)))⟩
  rw [hg x hx]
  by_cases e : x = j
  · rw [if_pos e, e, pk_us]
  · rw [if_neg e, pk_un (by omega)]; exact hD x hx
theorem sj_keep {m : Nat} (hm : m ≤ 20) {st ai ai' : Nat → Int32} (hr : ∀ r, r < m → sj_Ok (st r) ∧ sj_Row ai r (st r)) (e : ∀ i, i < 600 → ai' i = ai i) : ∀ r, r < m → sj_Ok (st r) ∧ sj_Row ai' r (st r) :=
  fun r h => ⟨(hr r h).1, sj_Row_k (hr r h).2 (fun x hx => e _ (by omega))⟩
theorem sj_on_row {d : Int32} {j : Nat} (hj : j < 30) : ∀ x, x < 30 → bt (d ||| ((1 : Int32) <<< (nI j &&& 31))) x = if x = j then true else bt d x := by
  intro x hx
  rw [sj_on d (by omega)]
  by_cases e : x = j
  · rw [if_pos e, decide_eq_true e, Bool.or_true]
  · rw [if_neg e, decide_eq_false e, Bool.or_false]
theorem sj_off_row {d : Int32} {j : Nat} (hj : j < 30) : ∀ x, x < 30 → bt (d &&& (((1 : Int32) <<< (nI j &&& 31)) ^^^ (-1))) x = if x = j then false else bt d x := by
  intro x hx
  rw [sj_off d (by omega)]
  by_cases e : x = j
  · rw [if_pos e, decide_eq_true e, Bool.not_true, Bool.and_false]
  · rw [if_neg e, decide_eq_false e, Bool.not_false, Bool.and_true]
theorem sj_on_n {d : Int32} {j : Nat} (hj : j < 30) : sj_n (d ||| ((1 : Int32) <<< (nI j &&& 31))) = if bt d j = true then sj_n d else sj_n d + 1 := by
  cases h : bt d j
  · rw [if_neg (by decide)]
    refine sj_c_set hj h ?_ (fun i hi => ?_)
    · rw [sj_on d (by omega), decide_eq_true rfl, Bool.or_true]
    · rw [sj_on d (by omega), decide_eq_false hi, Bool.or_false]
  · rw [if_pos rfl]
    refine sj_c_ext (fun i hi => ?_)
    rw [sj_on_row hj i hi]
    by_cases e : i = j
    · rw [if_pos e, e, h]
    · rw [if_neg e]
theorem sj_on_hi {d : Int32} {j : Nat} (hj : j < 30) (h : ∀ x, 30 ≤ x → bt d x = false) : ∀ x, 30 ≤ x → bt (d ||| ((1 : Int32) <<< (nI j &&& 31))) x = false := by
  intro x hx
  rw [sj_on d (by omega), h x hx, decide_eq_false (by omega)]; rfl
theorem sj_off_ok {d : Int32} {j : Nat} (hj : j < 30) (h : sj_Ok d) : sj_Ok (d &&& (((1 : Int32) <<< (nI j &&& 31)) ^^^ (-1))) := by
  refine ⟨fun x hx => ?_, Nat.le_trans (sj_c_mono (fun i hi e => ?_)) h.2⟩
  · rw [sj_off d (by omega), h.1 x hx, Bool.false_and]
  · rw [sj_off d (by omega)] at e
    exact (Bool.and_eq_true_iff.mp e).1
theorem sy_t37 {post : Int32 → SY → Prop} {c t w d : Int32} {ai lb : Nat → Int32} {j : Nat} (hj : j < 30) (hD : sj_Row ai 20 d) (hp : ∀ ai' : Nat → Int32, sj_Row ai' 20 (d ||| ((1 : Int32) <<< (nI j &&& 31))) → (∀ i, i < 600 → ai' i = ai i) → post (nI (sj_n (d ||| ((1 : Int32) <<< (nI j &&& 31))))) (c, t, w, ai', lb)) : wY_token_37 post (nI j) c t w ai lb :=
  sy_put (P := fun a' => wpY_sizeOf (fun r_17 => (post r_17 (c, t, w, a', lb))) (c, t, w, a', lb) 20) true hj hD (sj_on_row hj) (fun ai' h1 h2 => sy_size (r := 20) (by omega) h1 (hp ai' h1 h2))
theorem i_vc_token {k : Nat} {u : SX} {v : SY} (I : i_Rel k u v) (hk : k + 3 ≤ 1536) (v1 : Int32) : wpX_token (fun r u' => wpY_token (fun r' v' => r' = r ∧ i_Rel (k + 3) u' v') v v1) u v1 := by
  obtain ⟨m, d, t, w, st, ai, lb, hm, rfl, rfl, ⟨hd, hD⟩, hr⟩ := I
  unfold wpX_token
  dsimp only
  rcases sj_two v1 (n := 30) (by omega) with h | ⟨j, hj, rfl⟩
  · refine sx_tok_no h (br_t rfl ?_)
    unfold wpY_token
    dsimp only
    exact sy_tok_no h (br_f (by decide) ⟨rfl, sj_rel hm hd hD hr⟩)
  · refine sx_tok_ok hj (br_f (by decide) (nm_e (sx_count ?_)))
    have hn := sj_on_n (d := d) hj
    have hle := sj_n_le (d ||| ((1 : Int32) <<< (nI j &&& 31)))
    have hd2 := hd.2
    refine pk_le (sj_n (d ||| ((1 : Int32) <<< (nI j &&& 31)))) 12 (fun h => ?_) (fun h => ?_)
    · have T : wY_token_37 (fun r' v' => r' = nI (sj_n (d ||| ((1 : Int32) <<< (nI j &&& 31)))) ∧ i_Rel (k + 3) (nI m, d ||| ((1 : Int32) <<< (nI j &&& 31)), t, w, st) v') (nI j) (nI m) t w ai lb :=
        sy_t37 hj hD (fun ai' h1 h2 => ⟨rfl, sj_rel hm ⟨sj_on_hi hj hd.1, h⟩ h1 (sj_keep hm hr h2)⟩)
      unfold wpY_token
      dsimp only
      refine sy_tok_ok hj (br_t rfl (sy_size (r := 20) (by omega) hD ?_))
      refine pk_eq (sj_n d) 12 (fun h12 => sy_rd (r := 20) (by omega) hj hD (sj_i6 j) (fun hb => ?_) (fun _ => T)) (fun _ => T)
      rw [hb, if_neg (by decide)] at hn
      omega
    · unfold wpY_token
      dsimp only
      refine sy_tok_ok hj (br_t rfl (sy_size (r := 20) (by omega) hD ?_))
      have hb : bt d j = false := by
        cases hb : bt d j
        · rfl
        · rw [hb, if_pos rfl] at hn; omega
      rw [hb, if_neg (by decide)] at hn
      exact pk_eq (sj_n d) 12 (fun h12 => sy_rd (r := 20) (by omega) hj hD (sj_i6 j) (fun _ => ⟨rfl, sj_rel hm hd hD hr⟩) (fun z => absurd (hb.symm.trans z) (by decide))) (fun z => absurd (show sj_n d = 12 by omega) z)
theorem i_vc_drop {k : Nat} {u : SX} {v : SY} (I : i_Rel k u v) (hk : k + 3 ≤ 1536) (v1 : Int32) : wpX_drop (fun r u' => wpY_drop (fun r' v' => r' = r ∧ i_Rel (k + 3) u' v') v v1) u v1 := by
  obtain ⟨m, d, t, w, st, ai, lb, hm, rfl, rfl, ⟨hd, hD⟩, hr⟩ := I
  unfold wpX_drop
  dsimp only
  rcases sj_two v1 (n := 30) (by omega) with h | ⟨j, hj, rfl⟩
  · refine sx_tok_no h (br_t rfl ?_)
    unfold wpY_drop
    dsimp only
    exact sy_tok_no h (br_f (by decide) ⟨rfl, sj_rel hm hd hD hr⟩)
  · refine sx_tok_ok hj (br_f (by decide) (nm_e (sx_count ?_)))
    unfold wpY_drop
    dsimp only
    refine sy_tok_ok hj (br_t rfl ?_)
    exact sy_put (P := fun a' => wpY_sizeOf (fun r_17 => (r_17 = nI (sj_n (d &&& (((1 : Int32) <<< (nI j &&& 31)) ^^^ (-1)))) ∧ i_Rel (k + 3) (nI m, d &&& (((1 : Int32) <<< (nI j &&& 31)) ^^^ (-1)), t, w, st) (nI m, t, w, a', lb))) (nI m, t, w, a', lb) 20) false hj hD (sj_off_row hj) (fun ai' h1 h2 => sy_size (r := 20) (by omega) h1 ⟨rfl, sj_rel hm (sj_off_ok hj hd) h1 (sj_keep hm hr h2)⟩)
theorem sy_clear_l {post : Int32 → SY → Prop} {c t w x1 : Int32} {ai lb : Nat → Int32} (hp : ∀ ai' : Nat → Int32, sj_Row ai' 20 0 → (∀ i, i < 600 → ai' i = ai i) → post x1 (c, t, w, ai', lb)) : ∀ (e i : Nat) (ai' : Nat → Int32), i + e = 30 → (∀ x, x < i → ai' (30 * 20 + x) = sj_b false) → (∀ i, i < 600 → ai' i = ai i) → wY_clear_9 post x1 c t w (e + 1) (nI i) ai' lb := by
  intro e
  induction e with
  | zero =>
    intro i ai' hi h1 h2
    obtain rfl : i = 30 := by omega
    exact pk_le 30 30 (fun _ => hp ai' (fun x hx => by rw [b_0]; exact h1 x hx) h2) (fun h => absurd h (by omega))
  | succ e ih =>
    intro i ai' hi h1 h2
    refine pk_le 30 i (fun h => absurd h (by omega)) (fun _ => ?_)
    rw [sj_i6 i]
    refine ⟨vp_in_nI (by omega) (by omega), ?_⟩
    rw [nI_clamp (n := 30 * 20 + i) (by omega)]
    refine nm_e (nm_r (nI_1 i) (ih (i + 1) _ (by omega) (fun x hx => ?_) (fun j hj => ?_)))
    · by_cases e : x = i
      · rw [e, pk_us]; exact sj_nar false
      · rw [pk_un (by omega)]; exact h1 x (by omega)
    · rw [pk_un (by omega)]; exact h2 j hj
theorem i_vc_clear {k : Nat} {u : SX} {v : SY} (I : i_Rel k u v) (hk : k + 3 ≤ 1536) : wpX_clear (fun r u' => wpY_clear (fun r' v' => r' = r ∧ i_Rel (k + 3) u' v') v) u := by
  obtain ⟨m, d, t, w, st, ai, lb, hm, rfl, rfl, ⟨hd, hD⟩, hr⟩ := I
  unfold wpX_clear
  dsimp only
  refine sx_count ?_
  unfold wpY_clear
  dsimp only
  refine sy_size (r := 20) (by omega) hD ⟨31, ?_⟩
  exact sy_clear_l (ai := ai) (fun ai' h1 h2 => ⟨rfl, sj_rel hm sj_ok0 h1 (sj_keep hm hr h2)⟩) 30 0 ai rfl (fun x hx => absurd hx (by omega)) (fun _ _ => rfl)
theorem i_vc_recall {k : Nat} {u : SX} {v : SY} (I : i_Rel k u v) (hk : k + 3 ≤ 1536) (v1 : Int32) : wpX_recall (fun r u' => wpY_recall (fun r' v' => r' = r ∧ i_Rel (k + 3) u' v') v v1) u v1 := by
  obtain ⟨m, d, t, w, st, ai, lb, hm, rfl, rfl, ⟨hd, hD⟩, hr⟩ := I
  unfold wpX_recall
  dsimp only
  rcases sj_two v1 (n := m) (by omega) with h | ⟨j, hj, rfl⟩
  · refine sx_rec_no h (br_t rfl ?_)
    unfold wpY_recall
    dsimp only
    exact sy_bad_no h (br_f (by decide) ⟨rfl, sj_rel hm hd hD hr⟩)
  · refine sx_rec_ok hm hj (br_f (by decide) ⟨vp_in_nI (by omega) (by omega), ?_⟩)
    rw [nI_clamp (n := j) (by omega)]
    refine nm_e (sx_count ?_)
    unfold wpY_recall
    dsimp only
    refine sy_bad_ok hm hj (br_t rfl ?_)
    refine sy_copy (r := j) (q := 20) (by omega) (by omega) (by omega) (hr j hj).2 (fun ai' h1 h2 => ?_)
    exact sy_size (r := 20) (by omega) h1 ⟨rfl, sj_rel hm (hr j hj).1 h1 (sj_keep hm hr (fun i hi => h2 i (by omega)))⟩
theorem sj_n0 {d : Int32} (h : sj_Ok d) (h0 : sj_n d = 0) : d = 0 := by
  refine b_ext (fun i _ => ?_)
  rw [b_0]
  by_cases e : i < 30
  · exact sj_c_none h0 i e
  · exact h.1 i (by omega)
theorem sj_n00 : sj_n 0 = 0 := by decide +kernel
theorem i_vc_store {k : Nat} {u : SX} {v : SY} (I : i_Rel k u v) (hk : k + 3 ≤ 1536) : wpX_store (fun r u' => wpY_store (fun r' v' => r' = r ∧ i_Rel (k + 3) u' v') v) u := by
  obtain ⟨m, d, t, w, st, ai, lb, hm, rfl, rfl, ⟨hd, hD⟩, hr⟩ := I
  have hle := sj_n_le d
  unfold wpX_store
  dsimp only
  by_cases h0 : d = 0
  · refine br_t h0 ?_
    unfold wpY_store
    dsimp only
    refine sy_size (r := 20) (by omega) hD ?_
    exact pk_eq (sj_n d) 0 (fun _ => ⟨rfl, sj_rel hm hd hD hr⟩) (fun z => absurd (by rw [h0]; exact sj_n00) z)
  · refine br_f h0 ?_
    have hn : sj_n d ≠ 0 := fun z => h0 (sj_n0 hd z)
    refine pk_lt m 20 (fun h => ⟨vp_in_nI (by omega) (by omega), ?_⟩) (fun h => ?_)
    · rw [nI_clamp (n := m) (by omega)]
      refine nm_e (nm_r (nI_1 m) ?_)
      unfold wpY_store
      dsimp only
      refine sy_size (r := 20) (by omega) hD ?_
      refine pk_eq (sj_n d) 0 (fun z => absurd z hn) (fun _ => pk_lt m 20 (fun _ => ?_) (fun z => absurd z (by omega)))
      refine sy_copy (r := 20) (q := m) (by omega) (by omega) (by omega) hD (fun ai' h1 h2 => ?_)
      refine nm_r (nI_1 m) ⟨rfl, sj_rel (by omega) hd (sj_Row_k hD (fun x hx => h2 _ (by omega))) (fun r hr2 => ?_)⟩
      by_cases e : r = m
      · subst e
        rw [pk_us]
        exact ⟨hd, h1⟩
      · rw [pk_un e]
        exact ⟨(hr r (by omega)).1, sj_Row_k (hr r (by omega)).2 (fun x hx => h2 _ (by omega))⟩
    · unfold wpY_store
      dsimp only
      refine sy_size (r := 20) (by omega) hD ?_
      exact pk_eq (sj_n d) 0 (fun z => absurd z hn) (fun _ => pk_lt m 20 (fun z => absurd z (by omega)) (fun _ => ⟨rfl, sj_rel hm hd hD hr⟩))
/-- the records behind q, up to row i, moved one down -/
def sj_mv (st : Nat → Int32) (q i r : Nat) : Int32 := if q ≤ r ∧ r < i then st (r + 1) else st r
theorem sx_rem_l {post : Int32 → SX → Prop} {m q : Nat} (hm : m ≤ 20) (hq : q < m) {d t w : Int32} {st : Nat → Int32} (hp : ∀ st' : Nat → Int32, (∀ r, r < m → st' r = sj_mv st q (m - 1) r) → post (nI (m - 1)) (nI (m - 1), d, t, w, st')) : ∀ (e i : Nat) (st' : Nat → Int32), i + e = m → q < i → (∀ r, r < m → st' r = sj_mv st q (i - 1) r) → wX_remove_14 post (nI m) d t w (e + 1) (nI i) st' := by
  intro e
  induction e with
  | zero =>
    intro i st' hi hqi h1
    obtain rfl : i = m := by omega
    exact pk_le i i (fun _ => nm_r (show nI i - 1 = nI (i - 1) from pk_sub (a := i) (b := 1) (by omega)) (hp st' h1)) (fun h => absurd h (by omega))
  | succ e ih =>
    intro i st' hi hqi h1
    refine pk_le m i (fun h => absurd h (by omega)) (fun _ => ⟨vp_in_nI (by omega) (by omega), ?_⟩)
    rw [show nI i - 1 = nI (i - 1) from pk_sub (a := i) (b := 1) (by omega)]
    refine ⟨vp_in_nI (by omega) (by omega), ?_⟩
    rw [nI_clamp (n := i) (by omega), nI_clamp (n := i - 1) (by omega)]
    refine nm_e (nm_r (nI_1 i) (ih (i + 1) _ (by omega) (by omega) (fun r hr => ?_)))
    by_cases e : r = i - 1
    · rw [e, pk_us, h1 i (by omega)]
      unfold sj_mv
      rw [if_neg (by omega), if_pos (by omega), show i - 1 + 1 = i by omega]
    · rw [pk_un e, h1 r hr]
      unfold sj_mv
      by_cases c : q ≤ r ∧ r < i - 1
      · rw [if_pos c, if_pos (by omega)]
      · rw [if_neg c, if_neg (by omega)]
theorem sy_rem_l {post : Int32 → SY → Prop} {m q : Nat} (hm : m ≤ 20) (hq : q < m) {t w d : Int32} {st lb : Nat → Int32} (hp : ∀ ai' : Nat → Int32, sj_Row ai' 20 d → (∀ r, r < m → sj_Row ai' r (sj_mv st q (m - 1) r)) → post (nI (m - 1)) (nI (m - 1), t, w, ai', lb)) : ∀ (e i : Nat) (ai' : Nat → Int32), i + e = m - 1 → q ≤ i → sj_Row ai' 20 d → (∀ r, r < m → sj_Row ai' r (sj_mv st q i r)) → wY_remove_12 post (e + 1) (nI i) (nI m) t w ai' lb := by
  have em : nI m - 1 = nI (m - 1) := pk_sub (a := m) (b := 1) (by omega)
  intro e
  induction e with
  | zero =>
    intro i ai' hi hqi hD h1
    obtain rfl : i = m - 1 := by omega
    exact pk_le (m - 1) (m - 1) (fun _ => nm_r em (hp ai' hD h1)) (fun h => absurd h (by omega)) em
  | succ e ih =>
    intro i ai' hi hqi hD h1
    refine pk_le (m - 1) i (fun h => absurd h (by omega)) (fun _ => pk_le 19 i (fun h => absurd h (by omega)) (fun _ => ?_)) em
    rw [nI_1 i]
    refine sy_copy (r := i + 1) (q := i) (by omega) (by omega) (by omega) (h1 (i + 1) (by omega)) (fun a2 h2 h3 => ?_)
    refine nm_e (ih (i + 1) _ (by omega) (by omega) (sj_Row_k hD (fun x hx => h3 _ (by omega))) (fun r hr => ?_))
    by_cases e : r = i
    · subst e
      have e2 : sj_mv st q (r + 1) r = sj_mv st q r (r + 1) := by
        unfold sj_mv
        rw [if_pos (by omega), if_neg (by omega)]
      rw [e2]; exact h2
    · have e2 : sj_mv st q (i + 1) r = sj_mv st q i r := by
        unfold sj_mv
        by_cases c : q ≤ r ∧ r < i
        · rw [if_pos c, if_pos (by omega)]
        · rw [if_neg c, if_neg (by omega)]
      rw [e2]
      exact sj_Row_k (h1 r hr) (fun x hx => h3 _ (by omega))
theorem i_vc_remove {k : Nat} {u : SX} {v : SY} (I : i_Rel k u v) (hk : k + 3 ≤ 1536) (v1 : Int32) : wpX_remove (fun r u' => wpY_remove (fun r' v' => r' = r ∧ i_Rel (k + 3) u' v') v v1) u v1 := by
  obtain ⟨m, d, t, w, st, ai, lb, hm, rfl, rfl, ⟨hd, hD⟩, hr⟩ := I
  unfold wpX_remove
  dsimp only
  rcases sj_two v1 (n := m) (by omega) with h | ⟨j, hj, rfl⟩
  · refine sx_rec_no h (br_t rfl ?_)
    unfold wpY_remove
    dsimp only
    exact sy_bad_no h (br_f (by decide) ⟨rfl, sj_rel hm hd hD hr⟩)
  · refine sx_rec_ok hm hj (br_f (by decide) (nm_r (nI_1 j) ⟨m - (j + 1) + 1, ?_⟩))
    have mv0 : ∀ r, sj_mv st j j r = st r := fun r => by unfold sj_mv; rw [if_neg (by omega)]
    refine sx_rem_l (q := j) (st := st) hm hj (fun st' h1 => ?_) (m - (j + 1)) (j + 1) st (by omega) (by omega) (fun r _ => (mv0 r).symm)
    unfold wpY_remove
    dsimp only
    refine sy_bad_ok hm hj (br_t rfl ⟨m - 1 - j + 1, ?_⟩)
    refine sy_rem_l (q := j) (st := st) (d := d) hm hj (fun ai' h2 h3 => ⟨rfl, sj_rel (by omega) hd h2 (fun r hr2 => ?_)⟩) (m - 1 - j) j ai (by omega) (by omega) hD (fun r hr2 => by rw [mv0 r]; exact (hr r hr2).2)
    rw [h1 r (by omega)]
    refine ⟨?_, h3 r (by omega)⟩
    unfold sj_mv
    by_cases c : j ≤ r ∧ r < m - 1
    · rw [if_pos c]; exact (hr (r + 1) (by omega)).1
    · rw [if_neg c]; exact (hr r (by omega)).1
theorem i_vc_threshold {k : Nat} {u : SX} {v : SY} (I : i_Rel k u v) (hk : k + 3 ≤ 1536) (v1 : Int32) (v2 : Int32) : wpX_threshold (fun r u' => wpY_threshold (fun r' v' => r' = r ∧ i_Rel (k + 3) u' v') v v1 v2) u v1 v2 := by
  obtain ⟨m, d, t, w, st, ai, lb, hm, rfl, rfl, ⟨hd, hD⟩, hr⟩ := I
  unfold wpX_threshold wpX_isThresholdPart
  dsimp only
  have R : ∀ a b : Int32, i_Rel (k + 3) (nI m, d, a, b, st) (nI m, a, b, ai, lb) := fun a b => sj_rel hm hd hD hr
  by_cases a1 : v1 < 1
  · exact br_t a1 (br_t rfl (br_t a1 ⟨rfl, R t w⟩))
  refine br_f a1 ?_
  by_cases a2 : 12 < v1
  · exact br_t a2 (br_t rfl (br_f a1 (br_t a2 ⟨rfl, R t w⟩)))
  refine br_f a2 (br_f (by decide) ?_)
  by_cases a3 : v2 < 1
  · exact br_t a3 (br_t rfl (br_f a1 (br_f a2 (br_t a3 ⟨rfl, R t w⟩))))
  refine br_f a3 ?_
  by_cases a4 : 12 < v2
  · exact br_t a4 (br_t rfl (br_f a1 (br_f a2 (br_f a3 (br_f (Int32.not_le.mpr a4) ⟨rfl, R t w⟩)))))
  refine br_f a4 (br_f (by decide) ?_)
  by_cases a5 : v1 ≤ v2
  · exact br_t a5 (br_f a1 (br_f a2 (br_f a3 (br_t (Int32.not_lt.mp a4) (br_t a5 ⟨rfl, R v1 v2⟩)))))
  · exact br_f a5 (br_f a1 (br_f a2 (br_f a3 (br_t (Int32.not_lt.mp a4) (br_f a5 ⟨rfl, R t w⟩)))))
end
section
/-! the questions, but for the groups -/
theorem i_vc_records {k : Nat} {u : SX} {v : SY} (I : i_Rel k u v) (hk : k + 3 ≤ 1536) : wpX_records (fun r => wpY_records (fun r' => r' = r ∧ i_Rel (k + 3) u v) v) u := by
  obtain ⟨m, d, t, w, st, ai, lb, hm, rfl, rfl, ⟨hd, hD⟩, hr⟩ := I
  exact ⟨rfl, sj_rel hm hd hD hr⟩
theorem i_vc_size {k : Nat} {u : SX} {v : SY} (I : i_Rel k u v) (hk : k + 3 ≤ 1536) (v1 : Int32) : wpX_size (fun r => wpY_size (fun r' => r' = r ∧ i_Rel (k + 3) u v) v v1) u v1 := by
  obtain ⟨m, d, t, w, st, ai, lb, hm, rfl, rfl, ⟨hd, hD⟩, hr⟩ := I
  have R : i_Rel (k + 3) (nI m, d, t, w, st) (nI m, t, w, ai, lb) := sj_rel hm hd hD hr
  unfold wpX_size wpY_size
  dsimp only
  rcases sj_two v1 (n := m) (by omega) with h | ⟨j, hj, rfl⟩
  · exact sx_rec_no h (br_t rfl (sy_bad_no h (br_f (by decide) ⟨rfl, R⟩)))
  · refine sx_rec_ok hm hj (br_f (by decide) ⟨vp_in_nI (by omega) (by omega), ?_⟩)
    rw [nI_clamp (n := j) (by omega)]
    exact sx_count (sy_bad_ok hm hj (br_t rfl (sy_size (by omega) (hr j hj).2 ⟨rfl, R⟩)))
theorem i_vc_has {k : Nat} {u : SX} {v : SY} (I : i_Rel k u v) (hk : k + 3 ≤ 1536) (v1 : Int32) (v2 : Int32) : wpX_has (fun r => wpY_has (fun r' => r' = r ∧ i_Rel (k + 3) u v) v v1 v2) u v1 v2 := by
  obtain ⟨m, d, t, w, st, ai, lb, hm, rfl, rfl, ⟨hd, hD⟩, hr⟩ := I
  have R : i_Rel (k + 3) (nI m, d, t, w, st) (nI m, t, w, ai, lb) := sj_rel hm hd hD hr
  unfold wpX_has wpY_has
  dsimp only
  rcases sj_two v1 (n := m) (by omega) with h | ⟨j, hj, rfl⟩
  · exact sx_rec_no h (br_t rfl (sy_bad_no h (br_f (by decide) ⟨rfl, R⟩)))
  · rcases sj_two v2 (n := 30) (by omega) with h | ⟨x, hx, rfl⟩
    · exact sx_rec_ok hm hj (br_f (by decide) (sx_tok_no h (br_t rfl (sy_bad_ok hm hj (br_t rfl (sy_tok_no h (br_f (by decide) ⟨rfl, R⟩)))))))
    · refine sx_rec_ok hm hj (br_f (by decide) (sx_tok_ok hx (br_f (by decide) ⟨vp_in_nI (by omega) (by omega), ?_⟩)))
      rw [nI_clamp (n := j) (by omega)]
      refine sx_in (by omega) (sj_br (fun hb => ?_) (fun hb => ?_))
      · exact sy_bad_ok hm hj (br_t rfl (sy_tok_ok hx (br_t rfl (sy_rd (by omega) hx (hr j hj).2 (sj_ix j x) (fun _ => ⟨rfl, R⟩) (fun z => absurd (hb.symm.trans z) (by decide))))))
      · exact sy_bad_ok hm hj (br_t rfl (sy_tok_ok hx (br_t rfl (sy_rd (by omega) hx (hr j hj).2 (sj_ix j x) (fun z => absurd (hb.symm.trans z) (by decide)) (fun _ => ⟨rfl, R⟩)))))
theorem sx_freq_l {post : Int32 → Prop} {m x : Nat} (hm : m ≤ 20) (hx : x < 30) {d t w : Int32} {st : Nat → Int32} (hp : post (nI (sj_c (fun r => bt (st r) x) m))) : ∀ e i : Nat, i + e = m → wX_frequency_13 post (nI x) (nI m) d t w st (e + 1) (nI (sj_c (fun r => bt (st r) x) i)) (nI i) := by
  intro e
  induction e with
  | zero =>
    intro i hi
    obtain rfl : i = m := by omega
    exact pk_le i i (fun _ => hp) (fun h => absurd h (by omega))
  | succ e ih =>
    intro i hi
    refine pk_le m i (fun h => absurd h (by omega)) (fun _ => ⟨vp_in_nI (by omega) (by omega), ?_⟩)
    rw [nI_clamp (n := i) (by omega)]
    refine sx_in (by omega) (sj_br (fun hb => ?_) (fun hb => ?_))
    · refine nm_r (nI_1 i) ?_
      rw [← sj_c_f (f := fun r => bt (st r) x) hb]
      exact ih (i + 1) (by omega)
    · refine nm_r (e' := nI (sj_c (fun r => bt (st r) x) (i + 1))) ?_ (nm_r (nI_1 i) (ih (i + 1) (by omega)))
      rw [sj_c_t (f := fun r => bt (st r) x) hb]
      exact nI_1 _
theorem sy_freq_l {post : Int32 → Prop} {m x : Nat} (hm : m ≤ 20) (hx : x < 30) {t w : Int32} {st ai lb : Nat → Int32} (hr : ∀ r, r < m → sj_Row ai r (st r)) (hp : post (nI (sj_c (fun r => bt (st r) x) m))) : ∀ e i : Nat, i + e = m → wY_frequency_14 post (nI x) (nI m) t w ai lb (e + 1) (nI (sj_c (fun r => bt (st r) x) i)) (nI i) := by
  intro e
  induction e with
  | zero =>
    intro i hi
    obtain rfl : i = m := by omega
    exact pk_le i i (fun _ => hp) (fun h => absurd h (by omega))
  | succ e ih =>
    intro i hi
    refine pk_le m i (fun h => absurd h (by omega)) (fun _ => pk_le 20 i (fun h => absurd h (by omega)) (fun _ => sy_rd (by omega) hx (hr i (by omega)) (sj_ix i x) (fun hb => ?_) (fun hb => ?_)))
    · refine nm_r (nI_1 i) ?_
      rw [← sj_c_f (f := fun r => bt (st r) x) hb]
      exact ih (i + 1) (by omega)
    · refine nm_r (e' := nI (sj_c (fun r => bt (st r) x) (i + 1))) ?_ (nm_r (nI_1 i) (ih (i + 1) (by omega)))
      rw [sj_c_t (f := fun r => bt (st r) x) hb]
      exact nI_1 _
theorem i_vc_frequency {k : Nat} {u : SX} {v : SY} (I : i_Rel k u v) (hk : k + 3 ≤ 1536) (v1 : Int32) : wpX_frequency (fun r => wpY_frequency (fun r' => r' = r ∧ i_Rel (k + 3) u v) v v1) u v1 := by
  obtain ⟨m, d, t, w, st, ai, lb, hm, rfl, rfl, ⟨hd, hD⟩, hr⟩ := I
  have R : i_Rel (k + 3) (nI m, d, t, w, st) (nI m, t, w, ai, lb) := sj_rel hm hd hD hr
  unfold wpX_frequency wpY_frequency
  dsimp only
  rcases sj_two v1 (n := 30) (by omega) with h | ⟨x, hx, rfl⟩
  · exact sx_tok_no h (br_t rfl (sy_tok_no h (br_f (by decide) ⟨rfl, R⟩)))
  · refine sx_tok_ok hx (br_f (by decide) ⟨m + 1, sx_freq_l hm hx ?_ m 0 (by omega)⟩)
    exact sy_tok_ok hx (br_t rfl ⟨m + 1, sy_freq_l hm hx (fun r h => (hr r h).2) ⟨rfl, R⟩ m 0 (by omega)⟩)
theorem i_vc_common {k : Nat} {u : SX} {v : SY} (I : i_Rel k u v) (hk : k + 3 ≤ 1536) (v1 : Int32) (v2 : Int32) : wpX_common (fun r => wpY_common (fun r' => r' = r ∧ i_Rel (k + 3) u v) v v1 v2) u v1 v2 := by
  obtain ⟨m, d, t, w, st, ai, lb, hm, rfl, rfl, ⟨hd, hD⟩, hr⟩ := I
  have R : i_Rel (k + 3) (nI m, d, t, w, st) (nI m, t, w, ai, lb) := sj_rel hm hd hD hr
  unfold wpX_common wpY_common
  dsimp only
  rcases sj_two v1 (n := m) (by omega) with h | ⟨j, hj, rfl⟩
  · exact sx_rec_no h (br_t rfl (sy_bad_no h (br_f (by decide) ⟨rfl, R⟩)))
  · rcases sj_two v2 (n := m) (by omega) with h | ⟨x, hx, rfl⟩
    · exact sx_rec_ok hm hj (br_f (by decide) (sx_rec_no h (br_t rfl (sy_bad_ok hm hj (br_t rfl (sy_bad_no h (br_f (by decide) ⟨rfl, R⟩)))))))
    · refine sx_rec_ok hm hj (br_f (by decide) (sx_rec_ok hm hx (br_f (by decide) ⟨vp_in_nI (by omega) (by omega), vp_in_nI (by omega) (by omega), ?_⟩)))
      rw [nI_clamp (n := j) (by omega), nI_clamp (n := x) (by omega)]
      exact sx_count (sy_bad_ok hm hj (br_t rfl (sy_bad_ok hm hx (br_t rfl (sy_both (by omega) (by omega) (hr j hj).2 (hr x hx).2 ⟨rfl, R⟩)))))
theorem i_vc_similar {k : Nat} {u : SX} {v : SY} (I : i_Rel k u v) (hk : k + 3 ≤ 1536) (v1 : Int32) (v2 : Int32) : wpX_similar (fun r => wpY_similar (fun r' => r' = r ∧ i_Rel (k + 3) u v) v v1 v2) u v1 v2 := by
  obtain ⟨m, d, t, w, st, ai, lb, hm, rfl, rfl, ⟨hd, hD⟩, hr⟩ := I
  have R : i_Rel (k + 3) (nI m, d, t, w, st) (nI m, t, w, ai, lb) := sj_rel hm hd hD hr
  unfold wpX_similar wpY_similar
  dsimp only
  rcases sj_two v1 (n := m) (by omega) with h | ⟨j, hj, rfl⟩
  · exact sx_rec_no h (br_t rfl (sy_bad_no h (br_f (by decide) ⟨rfl, R⟩)))
  · rcases sj_two v2 (n := m) (by omega) with h | ⟨x, hx, rfl⟩
    · exact sx_rec_ok hm hj (br_f (by decide) (sx_rec_no h (br_t rfl (sy_bad_ok hm hj (br_t rfl (sy_bad_no h (br_f (by decide) ⟨rfl, R⟩)))))))
    · refine sx_rec_ok hm hj (br_f (by decide) (sx_rec_ok hm hx (br_f (by decide) ⟨vp_in_nI (by omega) (by omega), vp_in_nI (by omega) (by omega), ?_⟩)))
      rw [nI_clamp (n := j) (by omega), nI_clamp (n := x) (by omega)]
      refine sx_sim (sj_br (fun hb => ?_) (fun hb => ?_))
      · exact sy_bad_ok hm hj (br_t rfl (sy_bad_ok hm hx (br_t rfl (sy_alike (by omega) (by omega) (hr j hj).2 (hr x hx).2 (sj_br (fun _ => ⟨rfl, R⟩) (fun z => absurd (hb.symm.trans z) (by decide)))))))
      · exact sy_bad_ok hm hj (br_t rfl (sy_bad_ok hm hx (br_t rfl (sy_alike (by omega) (by omega) (hr j hj).2 (hr x hx).2 (sj_br (fun z => absurd (hb.symm.trans z) (by decide)) (fun _ => ⟨rfl, R⟩))))))
/-- record j is another than q and similar to it -/
def sj_T (t w : Int32) (st : Nat → Int32) (q j : Nat) : Bool := sj_sim t w (st q) (st j) && !decide (j = q)
theorem sj_T_comm (t w : Int32) (st : Nat → Int32) (a b : Nat) : sj_T t w st a b = sj_T t w st b a := by
  unfold sj_T
  rw [sj_sim_comm, show decide (b = a) = decide (a = b) from decide_eq_decide.mpr ⟨Eq.symm, Eq.symm⟩]
theorem sj_T_self (t w : Int32) (st : Nat → Int32) (a : Nat) : sj_T t w st a a = false := by
  unfold sj_T
  rw [decide_eq_true rfl, Bool.not_true, Bool.and_false]
theorem sx_pairs_l {post : Int32 → Prop} {m : Nat} (hm : m ≤ 20) {d t w : Int32} {st : Nat → Int32} (hp : post (nI (sj_s (fun a => sj_c (sj_T t w st a) m) m / 2))) : ∀ e i : Nat, i + e = m → wX_pairs_4 post (nI m) d t w st (e + 1) (nI (sj_s (fun a => sj_c (sj_T t w st a) m) i)) (nI i) := by
  intro e
  induction e with
  | zero =>
    intro i hi
    obtain rfl : i = m := by omega
    refine pk_le i i (fun _ => ⟨by decide, ?_⟩) (fun h => absurd h (by omega))
    have hs : sj_s (fun a => sj_c (sj_T t w st a) i) i ≤ i * i := sj_s_le (fun j _ => sj_c_le _ i)
    have hs2 : i * i ≤ 20 * 20 := Nat.mul_le_mul hm hm
    rw [show nI (sj_s (fun a => sj_c (sj_T t w st a) i) i) / 2 = nI (sj_s (fun a => sj_c (sj_T t w st a) i) i / 2) from pk_div (d := 2) (by omega) (by omega) (by omega)]
    exact hp
  | succ e ih =>
    intro i hi
    refine pk_le m i (fun h => absurd h (by omega)) (fun _ => sx_oth hm (by omega) (fun R hR => sx_count ?_))
    rw [sj_M_n hm hR]
    exact nm_r (nI_add _ _) (nm_r (nI_1 i) (ih (i + 1) (by omega)))
theorem sy_pairs_in {post : Int32 → Prop} {J : Int32 → Int32 → Prop} {m a c : Nat} (hm : m ≤ 20) (ha : a < m) {t w : Int32} {st ai lb : Nat → Int32} (hr : ∀ r, r < m → sj_Row ai r (st r)) (hJ : J (nI (c + sj_c (fun b => decide (a < b) && sj_T t w st a b) m)) (nI (a + 1))) : ∀ e i : Nat, i + e = m → a < i → wY_pairs_22 post J (nI a) (nI m) t w ai lb (e + 1) (nI (c + sj_c (fun b => decide (a < b) && sj_T t w st a b) i)) (nI i) := by
  intro e
  induction e with
  | zero =>
    intro i hi hai
    obtain rfl : i = m := by omega
    exact pk_le i i (fun _ => nm_r (nI_1 a) hJ) (fun h => absurd h (by omega))
  | succ e ih =>
    intro i hi hai
    have ei : (decide (a < i) && sj_T t w st a i) = sj_sim t w (st a) (st i) := by
      unfold sj_T
      rw [decide_eq_true hai, decide_eq_false (by omega), Bool.true_and, Bool.not_false, Bool.and_true]
    refine pk_le m i (fun h => absurd h (by omega)) (fun _ => pk_le 20 i (fun h => absurd h (by omega)) (fun _ => sy_alike (by omega) (by omega) (hr a ha) (hr i (by omega)) (sj_br (fun hb => ?_) (fun hb => ?_))))
    · refine nm_r (nI_1 i) ?_
      rw [← sj_c_f (f := fun b => decide (a < b) && sj_T t w st a b) (n := i) (ei.trans hb)]
      exact ih (i + 1) (by omega) (by omega)
    · refine nm_r (e' := nI (c + sj_c (fun b => decide (a < b) && sj_T t w st a b) (i + 1))) ?_ (nm_r (nI_1 i) (ih (i + 1) (by omega) (by omega)))
      rw [sj_c_t (f := fun b => decide (a < b) && sj_T t w st a b) (n := i) (ei.trans hb)]
      exact nI_1 _
theorem sy_pairs_l {post : Int32 → Prop} {m : Nat} (hm : m ≤ 20) {t w : Int32} {st ai lb : Nat → Int32} (hr : ∀ r, r < m → sj_Row ai r (st r)) (hp : post (nI (sj_s (fun a => sj_c (fun b => decide (a < b) && sj_T t w st a b) m) m))) : ∀ e i : Nat, i + e = m → wY_pairs_4 post (nI m) t w ai lb (e + 1) (nI (sj_s (fun a => sj_c (fun b => decide (a < b) && sj_T t w st a b) m) i)) (nI i) := by
  intro e
  induction e with
  | zero =>
    intro i hi
    obtain rfl : i = m := by omega
    exact pk_le i i (fun _ => hp) (fun h => absurd h (by omega))
  | succ e ih =>
    intro i hi
    refine pk_le m i (fun h => absurd h (by omega)) (fun _ => pk_le 20 i (fun h => absurd h (by omega)) (fun _ => nm_r (nI_1 i) ⟨m - (i + 1) + 1, ?_⟩))
    have z : sj_c (fun b => decide (i < b) && sj_T t w st i b) (i + 1) = 0 := sj_c_zero (fun j hj => by
      show (decide (i < j) && sj_T t w st i j) = false
      rw [decide_eq_false (by omega), Bool.false_and])
    have g := sy_pairs_in (post := post) (J := wY_pairs_4 post (nI m) t w ai lb (e + 1)) (lb := lb) (a := i) (c := sj_s (fun a => sj_c (fun b => decide (a < b) && sj_T t w st a b) m) i) hm (by omega) hr (ih (i + 1) (by omega)) (m - (i + 1)) (i + 1) (by omega) (by omega)
    rw [z] at g
    exact g
theorem i_vc_pairs {k : Nat} {u : SX} {v : SY} (I : i_Rel k u v) (hk : k + 3 ≤ 1536) : wpX_pairs (fun r => wpY_pairs (fun r' => r' = r ∧ i_Rel (k + 3) u v) v) u := by
  obtain ⟨m, d, t, w, st, ai, lb, hm, rfl, rfl, ⟨hd, hD⟩, hr⟩ := I
  have R : i_Rel (k + 3) (nI m, d, t, w, st) (nI m, t, w, ai, lb) := sj_rel hm hd hD hr
  unfold wpX_pairs wpY_pairs
  dsimp only
  refine ⟨m + 1, sx_pairs_l hm ?_ m 0 (by omega)⟩
  refine ⟨m + 1, sy_pairs_l (st := st) hm (fun r h => (hr r h).2) ⟨?_, R⟩ m 0 (by omega)⟩
  rw [sj_pairs (sj_T t w st) (sj_T_comm t w st) (sj_T_self t w st) m, Nat.mul_div_cancel_left _ (by omega)]
theorem sy_deg_l {post : Int32 → Prop} {m q : Nat} (hm : m ≤ 20) (hq : q < m) {t w : Int32} {st ai lb : Nat → Int32} (hr : ∀ r, r < m → sj_Row ai r (st r)) (hp : post (nI (sj_c (sj_T t w st q) m))) : ∀ e i : Nat, i + e = m → wY_degree_14 post (nI q) (nI m) t w ai lb (e + 1) (nI (sj_c (sj_T t w st q) i)) (nI i) := by
  intro e
  induction e with
  | zero =>
    intro i hi
    obtain rfl : i = m := by omega
    exact pk_le i i (fun _ => hp) (fun h => absurd h (by omega))
  | succ e ih =>
    intro i hi
    refine pk_le m i (fun h => absurd h (by omega)) (fun _ => pk_le 20 i (fun h => absurd h (by omega)) (fun _ => pk_eq i q (fun h => ?_) (fun h => sy_alike (by omega) (by omega) (hr i (by omega)) (hr q hq) (sj_br (fun hb => ?_) (fun hb => ?_)))))
    · refine nm_r (nI_1 i) ?_
      rw [← sj_c_f (f := sj_T t w st q) (n := i) (by rw [h]; exact sj_T_self t w st q)]
      exact ih (i + 1) (by omega)
    · refine nm_r (nI_1 i) ?_
      rw [← sj_c_f (f := sj_T t w st q) (n := i) (by unfold sj_T; rw [sj_sim_comm, hb, Bool.false_and])]
      exact ih (i + 1) (by omega)
    · refine nm_r (e' := nI (sj_c (sj_T t w st q) (i + 1))) ?_ (nm_r (nI_1 i) (ih (i + 1) (by omega)))
      rw [sj_c_t (f := sj_T t w st q) (n := i) (by unfold sj_T; rw [sj_sim_comm, hb, decide_eq_false h]; rfl)]
      exact nI_1 _
theorem i_vc_degree {k : Nat} {u : SX} {v : SY} (I : i_Rel k u v) (hk : k + 3 ≤ 1536) (v1 : Int32) : wpX_degree (fun r => wpY_degree (fun r' => r' = r ∧ i_Rel (k + 3) u v) v v1) u v1 := by
  obtain ⟨m, d, t, w, st, ai, lb, hm, rfl, rfl, ⟨hd, hD⟩, hr⟩ := I
  have R : i_Rel (k + 3) (nI m, d, t, w, st) (nI m, t, w, ai, lb) := sj_rel hm hd hD hr
  unfold wpX_degree wpY_degree
  dsimp only
  rcases sj_two v1 (n := m) (by omega) with h | ⟨j, hj, rfl⟩
  · exact sx_rec_no h (br_t rfl (sy_bad_no h (br_f (by decide) ⟨rfl, R⟩)))
  · refine sx_rec_ok hm hj (br_f (by decide) (sx_oth hm hj (fun Q hQ => sx_count ?_)))
    rw [sj_M_n hm hQ]
    exact sy_bad_ok hm hj (br_t rfl ⟨m + 1, sy_deg_l (st := st) hm hj (fun r h => (hr r h).2) ⟨rfl, R⟩ m 0 (by omega)⟩)
/-- both walks in step: one answer for both -/
theorem sj_part {m q : Nat} (hm : m ≤ 20) (hq : q < m) {d t w p Q : Int32} {st ai lb : Nat → Int32} (hr : ∀ r, r < m → sj_Row ai r (st r)) (hQ : sj_M m (sj_T t w st q) Q) : ∀ (e i : Nat) (c : Int32), i + e = m → ∃ r : Int32, (∀ post : Int32 → Prop, post r → wX_partner_22 post p Q (nI m) d t w st (e + 1) c (nI i)) ∧ (∀ post : Int32 → Prop, post r → wY_partner_15 post (nI q) p (nI m) t w ai lb (e + 1) c (nI i)) := by
  intro e
  induction e with
  | zero =>
    intro i c hi
    obtain rfl : i = m := by omega
    exact ⟨-2, fun post hp => pk_le i i (fun _ => hp) (fun h => absurd h (by omega)), fun post hp => pk_le i i (fun _ => hp) (fun h => absurd h (by omega))⟩
  | succ e ih =>
    intro i c hi
    have hb := sj_M_b hQ (j := i) (by omega)
    cases hT : sj_T t w st q i
    · rw [hT] at hb
      obtain ⟨r, hX, hY⟩ := ih (i + 1) c (by omega)
      refine ⟨r, fun post hp => ?_, fun post hp => ?_⟩
      · refine pk_le m i (fun h => absurd h (by omega)) (fun _ => sx_in (by omega) (sj_br (fun _ => nm_r (nI_1 i) (hX post hp)) (fun z => absurd (hb.symm.trans z) (by decide))))
      · refine pk_le m i (fun h => absurd h (by omega)) (fun _ => pk_le 20 i (fun h => absurd h (by omega)) (fun _ => pk_eq i q (fun h => nm_r (nI_1 i) (hY post hp)) (fun h => sy_alike (by omega) (by omega) (hr i (by omega)) (hr q hq) (sj_br (fun _ => nm_r (nI_1 i) (hY post hp)) (fun z => ?_)))))
        unfold sj_T at hT
        rw [sj_sim_comm, z, decide_eq_false h] at hT
        exact absurd hT (by decide)
    · rw [hT] at hb
      unfold sj_T at hT
      have h1 : sj_sim t w (st i) (st q) = true := by rw [sj_sim_comm]; exact (Bool.and_eq_true_iff.mp hT).1
      have h2 : i ≠ q := fun z => by
        rw [decide_eq_true z, Bool.not_true, Bool.and_false] at hT
        exact absurd hT (by decide)
      by_cases hc : c = p
      · refine ⟨nI i, fun post hp => ?_, fun post hp => ?_⟩
        · exact pk_le m i (fun h => absurd h (by omega)) (fun _ => sx_in (by omega) (sj_br (fun z => absurd (hb.symm.trans z) (by decide)) (fun _ => br_t hc hp)))
        · exact pk_le m i (fun h => absurd h (by omega)) (fun _ => pk_le 20 i (fun h => absurd h (by omega)) (fun _ => pk_eq i q (fun h => absurd h h2) (fun h => sy_alike (by omega) (by omega) (hr i (by omega)) (hr q hq) (sj_br (fun z => absurd (h1.symm.trans z) (by decide)) (fun _ => br_t hc hp)))))
      · obtain ⟨r, hX, hY⟩ := ih (i + 1) (c + 1) (by omega)
        refine ⟨r, fun post hp => ?_, fun post hp => ?_⟩
        · exact pk_le m i (fun h => absurd h (by omega)) (fun _ => sx_in (by omega) (sj_br (fun z => absurd (hb.symm.trans z) (by decide)) (fun _ => br_f hc (nm_e (nm_r (nI_1 i) (hX post hp))))))
        · exact pk_le m i (fun h => absurd h (by omega)) (fun _ => pk_le 20 i (fun h => absurd h (by omega)) (fun _ => pk_eq i q (fun h => absurd h h2) (fun h => sy_alike (by omega) (by omega) (hr i (by omega)) (hr q hq) (sj_br (fun z => absurd (h1.symm.trans z) (by decide)) (fun _ => br_f hc (nm_e (nm_r (nI_1 i) (hY post hp))))))))
theorem i_vc_partner {k : Nat} {u : SX} {v : SY} (I : i_Rel k u v) (hk : k + 3 ≤ 1536) (v1 : Int32) (v2 : Int32) : wpX_partner (fun r => wpY_partner (fun r' => r' = r ∧ i_Rel (k + 3) u v) v v1 v2) u v1 v2 := by
  obtain ⟨m, d, t, w, st, ai, lb, hm, rfl, rfl, ⟨hd, hD⟩, hr⟩ := I
  have R : i_Rel (k + 3) (nI m, d, t, w, st) (nI m, t, w, ai, lb) := sj_rel hm hd hD hr
  unfold wpX_partner wpY_partner
  dsimp only
  rcases sj_two v1 (n := m) (by omega) with h | ⟨j, hj, rfl⟩
  · exact sx_rec_no h (br_t rfl (sy_bad_no h (br_f (by decide) ⟨rfl, R⟩)))
  · refine sx_rec_ok hm hj (br_f (by decide) (sx_oth hm hj (fun Q hQ => ?_)))
    obtain ⟨r, hX, hY⟩ := sj_part (d := d) (p := v2) (lb := lb) hm hj (fun r h => (hr r h).2) hQ m 0 0 (by omega)
    exact ⟨m + 1, hX _ (sy_bad_ok hm hj (br_t rfl ⟨m + 1, hY _ ⟨rfl, R⟩⟩))⟩
end
