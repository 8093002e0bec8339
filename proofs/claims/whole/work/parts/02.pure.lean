/-! counting, sums, sets as bits: no walk here -/
/-- how many of the first n are true -/
def sj_c (f : Nat → Bool) : Nat → Nat
  | 0 => 0
  | n + 1 => sj_c f n + (f n).toNat
theorem sj_c_f {f : Nat → Bool} {n : Nat} (h : f n = false) : sj_c f (n + 1) = sj_c f n := by
  show sj_c f n + (f n).toNat = _
  rw [h]; rfl
theorem sj_c_t {f : Nat → Bool} {n : Nat} (h : f n = true) : sj_c f (n + 1) = sj_c f n + 1 := by
  show sj_c f n + (f n).toNat = _
  rw [h]; rfl
theorem sj_c_le (f : Nat → Bool) (n : Nat) : sj_c f n ≤ n := by
  induction n with
  | zero => exact Nat.le_refl 0
  | succ n ih =>
    cases h : f n
    · rw [sj_c_f h]; omega
    · rw [sj_c_t h]; omega
theorem sj_c_ext {f g : Nat → Bool} {n : Nat} (h : ∀ i, i < n → f i = g i) : sj_c f n = sj_c g n := by
  induction n with
  | zero => rfl
  | succ n ih =>
    show sj_c f n + (f n).toNat = sj_c g n + (g n).toNat
    rw [ih (fun i hi => h i (by omega)), h n (by omega)]
theorem sj_c_mono {f g : Nat → Bool} {n : Nat} (h : ∀ i, i < n → f i = true → g i = true) : sj_c f n ≤ sj_c g n := by
  induction n with
  | zero => exact Nat.le_refl 0
  | succ n ih =>
    have a := ih (fun i hi => h i (by omega))
    cases hf : f n
    · rw [sj_c_f hf]
      cases hg : g n
      · rw [sj_c_f hg]; exact a
      · rw [sj_c_t hg]; omega
    · rw [sj_c_t hf, sj_c_t (h n (by omega) hf)]; omega
theorem sj_c_lt {f g : Nat → Bool} {n k : Nat} (h : ∀ i, i < n → f i = true → g i = true) (hk : k < n) (hf : f k = false) (hg : g k = true) : sj_c f n < sj_c g n := by
  induction n with
  | zero => omega
  | succ n ih =>
    by_cases e : k = n
    · subst e
      have a := sj_c_mono (n := k) (fun i hi => h i (by omega))
      rw [sj_c_f hf, sj_c_t hg]; omega
    · have a := ih (fun i hi => h i (by omega)) (by omega)
      cases hf2 : f n
      · rw [sj_c_f hf2]
        cases hg2 : g n
        · rw [sj_c_f hg2]; exact a
        · rw [sj_c_t hg2]; omega
      · rw [sj_c_t hf2, sj_c_t (h n (by omega) hf2)]; omega
theorem sj_c_tail {f : Nat → Bool} {n N : Nat} (hn : n ≤ N) (h : ∀ i, n ≤ i → f i = false) : sj_c f N = sj_c f n := by
  induction N with
  | zero => obtain rfl : n = 0 := by omega
            rfl
  | succ N ih =>
    by_cases e : n = N + 1
    · rw [e]
    · rw [sj_c_f (h N (by omega))]; exact ih (by omega)
theorem sj_c_set {f g : Nat → Bool} {n k : Nat} (hk : k < n) (hf : f k = false) (hg : g k = true) (h : ∀ i, i ≠ k → g i = f i) : sj_c g n = sj_c f n + 1 := by
  induction n with
  | zero => omega
  | succ n ih =>
    by_cases e : k = n
    · subst e
      rw [sj_c_f hf, sj_c_t hg, sj_c_ext (f := g) (g := f) (fun i hi => h i (by omega))]
    · have a := ih (by omega)
      have b : g n = f n := h n (fun z => e z.symm)
      cases hf2 : f n
      · rw [sj_c_f hf2, sj_c_f (b.trans hf2)]; exact a
      · rw [sj_c_t hf2, sj_c_t (b.trans hf2)]; omega
theorem sj_c_full {f : Nat → Bool} {n : Nat} (h : sj_c f n = n) : ∀ i, i < n → f i = true := by
  induction n with
  | zero => intro i hi; omega
  | succ n ih =>
    have a := sj_c_le f n
    cases hf : f n
    · rw [sj_c_f hf] at h; omega
    · rw [sj_c_t hf] at h
      intro i hi
      by_cases e : i = n
      · rw [e]; exact hf
      · exact ih (by omega) i (by omega)
theorem sj_c_none {f : Nat → Bool} {n : Nat} (h : sj_c f n = 0) : ∀ i, i < n → f i = false := by
  intro i hi
  cases hf : f i
  · rfl
  · have a := sj_c_lt (f := fun _ => false) (g := f) (n := n) (k := i) (fun _ _ z => nomatch z) hi rfl hf
    omega
theorem sj_c_zero {f : Nat → Bool} {n : Nat} (h : ∀ i, i < n → f i = false) : sj_c f n = 0 := by
  induction n with
  | zero => rfl
  | succ n ih => rw [sj_c_f (h n (by omega))]; exact ih (fun i hi => h i (by omega))
theorem sj_c_eq {f g : Nat → Bool} {n : Nat} (h : ∀ i, i < n → f i = true → g i = true) (e : sj_c f n = sj_c g n) : ∀ i, i < n → f i = g i := by
  intro i hi
  cases hf : f i
  · cases hg : g i
    · rfl
    · have a := sj_c_lt h hi hf hg
      omega
  · exact (h i hi hf).symm
/-- a sum -/
def sj_s (g : Nat → Nat) : Nat → Nat
  | 0 => 0
  | n + 1 => sj_s g n + g n
theorem sj_s_ext {g h : Nat → Nat} {n : Nat} (e : ∀ i, i < n → g i = h i) : sj_s g n = sj_s h n := by
  induction n with
  | zero => rfl
  | succ n ih =>
    show sj_s g n + g n = sj_s h n + h n
    rw [ih (fun i hi => e i (by omega)), e n (by omega)]
theorem sj_s_c (g : Nat → Nat) (f : Nat → Bool) (n : Nat) : sj_s (fun a => g a + (f a).toNat) n = sj_s g n + sj_c f n := by
  induction n with
  | zero => rfl
  | succ n ih =>
    show sj_s (fun a => g a + (f a).toNat) n + (g n + (f n).toNat) = (sj_s g n + g n) + (sj_c f n + (f n).toNat)
    rw [ih]; omega
theorem sj_s_le {g : Nat → Nat} {n c : Nat} (h : ∀ i, i < n → g i ≤ c) : sj_s g n ≤ n * c := by
  induction n with
  | zero => exact Nat.zero_le _
  | succ n ih =>
    have a := ih (fun i hi => h i (by omega))
    have b := h n (by omega)
    show sj_s g n + g n ≤ _
    rw [Nat.succ_mul]; omega
/-- pairs from both sides are twice the pairs from one -/
theorem sj_pairs (T : Nat → Nat → Bool) (hs : ∀ a b, T a b = T b a) (h0 : ∀ a, T a a = false) (n : Nat) :
    sj_s (fun a => sj_c (T a) n) n = 2 * sj_s (fun a => sj_c (fun b => decide (a < b) && T a b) n) n := by
  induction n with
  | zero => rfl
  | succ n ih =>
    have e1 : sj_s (fun a => sj_c (T a) (n + 1)) (n + 1) = sj_s (fun a => sj_c (T a) n) n + sj_c (T n) n + sj_c (T n) n := by
      show sj_s (fun a => sj_c (T a) n + (T a n).toNat) n + sj_c (T n) (n + 1) = _
      rw [sj_s_c (fun a => sj_c (T a) n) (fun a => T a n) n, sj_c_f (h0 n), sj_c_ext (f := fun a => T a n) (g := T n) (fun i _ => hs i n)]
    have e2 : sj_s (fun a => sj_c (fun b => decide (a < b) && T a b) (n + 1)) (n + 1) = sj_s (fun a => sj_c (fun b => decide (a < b) && T a b) n) n + sj_c (T n) n := by
      show sj_s (fun a => sj_c (fun b => decide (a < b) && T a b) n + (decide (a < n) && T a n).toNat) n + sj_c (fun b => decide (n < b) && T n b) (n + 1) = _
      rw [sj_s_c (fun a => sj_c (fun b => decide (a < b) && T a b) n) (fun a => decide (a < n) && T a n) n]
      rw [sj_c_zero (f := fun b => decide (n < b) && T n b) (fun i hi => by
        show (decide (n < i) && T n i) = false
        rw [decide_eq_false (by omega), Bool.false_and])]
      rw [sj_c_ext (f := fun a => decide (a < n) && T a n) (g := T n) (fun i hi => by
        show (decide (i < n) && T i n) = T n i
        rw [decide_eq_true hi, Bool.true_and, hs])]
      rfl
    rw [e1, e2, ih]; omega
/-- a truth value as an int -/
def sj_b (b : Bool) : Int32 := nI b.toNat
theorem sj_1 : ∀ j, j < 32 → bt 1 j = decide (j = 0) := by decide +kernel
theorem sj_bb : ∀ b : Bool, ∀ j, j < 32 → bt (sj_b b) j = (b && decide (j = 0)) := by decide +kernel
theorem sj_bit (x : Int32) {i : Nat} (hi : i < 32) : (x >>> (nI i &&& 31)) &&& 1 = sj_b (bt x i) := by
  apply b_ext
  intro j hj
  rw [b_and, b_sshr i hi x hj, sj_1 j hj, sj_bb _ j hj]
  by_cases e : j = 0
  · subst e
    rw [if_pos (by omega)]; rfl
  · rw [decide_eq_false e, Bool.and_false, Bool.and_false]
theorem sj_one {k : Nat} (hk : k < 32) (i : Nat) : bt ((1 : Int32) <<< (nI k &&& 31)) i = decide (i = k) := by
  by_cases hi : i < 32
  · rw [b_shl k hk 1 hi, sj_1 (i - k) (by omega)]
    by_cases e : i = k
    · subst e
      rw [decide_eq_true (Nat.le_refl i), decide_eq_true (by omega), decide_eq_true rfl]; rfl
    · rw [decide_eq_false e]
      by_cases l : k ≤ i
      · rw [decide_eq_false (p := i - k = 0) (by omega), Bool.and_false]
      · rw [decide_eq_false l, Bool.false_and]
  · rw [b_big (by omega), decide_eq_false (by omega)]
theorem sj_not (x : Int32) {i : Nat} (hi : i < 32) : bt (x ^^^ (-1)) i = !bt x i := by
  rw [b_xor, b_m1 i hi, Bool.xor_true]
theorem sj_on (d : Int32) {k : Nat} (hk : k < 32) (i : Nat) : bt (d ||| ((1 : Int32) <<< (nI k &&& 31))) i = (bt d i || decide (i = k)) := by
  rw [b_or, sj_one hk]
theorem sj_off (d : Int32) {k : Nat} (hk : k < 32) (i : Nat) : bt (d &&& (((1 : Int32) <<< (nI k &&& 31)) ^^^ (-1))) i = (bt d i && !decide (i = k)) := by
  by_cases hi : i < 32
  · rw [b_and, sj_not _ hi, sj_one hk]
  · rw [b_and, b_big (x := d) (by omega), Bool.false_and, Bool.false_and]
theorem sj_minus (a b : Int32) (i : Nat) : bt (a &&& (b ^^^ (-1))) i = (bt a i && !bt b i) := by
  by_cases hi : i < 32
  · rw [b_and, sj_not _ hi]
  · rw [b_and, b_big (x := a) (by omega), Bool.false_and, Bool.false_and]
theorem sj_br {b : Bool} {A B : Prop} (f : b = false → A) (g : b = true → B) : (sj_b b = 0 → A) ∧ (¬ sj_b b = 0 → B) := by
  cases b
  · exact br_t (by decide) (f rfl)
  · exact br_f (by decide) (g rfl)
theorem sj_lt {x y : Int32} {post : Int32 → Prop} (hp : post (sj_b (!decide (x < y)))) : (x < y → post 0) ∧ (¬ x < y → post 1) := by
  by_cases h : x < y
  · rw [decide_eq_true h] at hp; exact br_t h hp
  · rw [decide_eq_false h] at hp; exact br_f h hp
theorem sj_nar (b : Bool) : vp_nar .boolean (sj_b b) = sj_b b := by cases b <;> decide
/-- the number of members of a set of tokens (or of records) -/
def sj_n (s : Int32) : Nat := sj_c (bt s) 30
theorem sj_n_le (s : Int32) : sj_n s ≤ 30 := sj_c_le _ 30
/-- are two sets similar -/
def sj_sim (t w a b : Int32) : Bool := !decide (w * nI (sj_n (a &&& b)) < t * nI (sj_n (a ||| b)))
theorem sj_sim_comm (t w a b : Int32) : sj_sim t w a b = sj_sim t w b a := by
  unfold sj_sim
  rw [Int32.and_comm a b, Int32.or_comm a b]
