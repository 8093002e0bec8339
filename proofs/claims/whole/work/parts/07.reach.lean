/-! which records hang together, and what one round of labels does: no walk here -/
/-- b is reached from a by steps between records below m -/
def sj_rc (m : Nat) (S : Nat → Nat → Bool) (a b : Nat) : Prop := ∀ P : Nat → Prop, P a → (∀ x y, x < m → y < m → P x → S x y = true → P y) → P b
theorem sj_rc_0 {m : Nat} {S : Nat → Nat → Bool} {a : Nat} : sj_rc m S a a := fun _ h _ => h
theorem sj_rc_s {m : Nat} {S : Nat → Nat → Bool} {a x y : Nat} (h : sj_rc m S a x) (hx : x < m) (hy : y < m) (e : S x y = true) : sj_rc m S a y :=
  fun P h0 hs => hs x y hx hy (h P h0 hs) e
theorem sj_rc_t {m : Nat} {S : Nat → Nat → Bool} {a b c : Nat} (h : sj_rc m S a b) (g : sj_rc m S b c) : sj_rc m S a c :=
  fun P h0 hs => g P (h P h0 hs) hs
theorem sj_rc_c {m : Nat} {S : Nat → Nat → Bool} (hS : ∀ x y, S x y = S y x) {a b : Nat} (h : sj_rc m S a b) : sj_rc m S b a :=
  h (fun z => sj_rc m S z a) sj_rc_0 (fun x y hx hy hp e => sj_rc_t (sj_rc_s sj_rc_0 hy hx ((hS y x).trans e)) hp)
theorem sj_rc_lt {m : Nat} {S : Nat → Nat → Bool} {a b : Nat} (ha : a < m) (h : sj_rc m S a b) : b < m :=
  h (fun z => z < m) ha (fun _ _ _ hy _ _ => hy)
/-- labels that stay within their groups and never grow -/
def sj_V (m : Nat) (S : Nat → Nat → Bool) (lb : Nat → Int32) (L : Nat → Nat) : Prop := ∀ a, a < m → lb a = nI (L a) ∧ L a ≤ a ∧ sj_rc m S a (L a)
/-- the label of a is its group's least -/
def sj_Cor (m : Nat) (S : Nat → Nat → Bool) (L : Nat → Nat) (a : Nat) : Prop := ∀ b, sj_rc m S a b → L a ≤ b
def sj_Fin (m : Nat) (S : Nat → Nat → Bool) (L : Nat → Nat) : Prop := ∀ a, a < m → sj_Cor m S L a
noncomputable def sj_cor (m : Nat) (S : Nat → Nat → Bool) (L : Nat → Nat) (a : Nat) : Bool := @decide (sj_Cor m S L a) (Classical.propDecidable _)
theorem sj_cor_t {m : Nat} {S : Nat → Nat → Bool} {L : Nat → Nat} {a : Nat} : sj_cor m S L a = true ↔ sj_Cor m S L a := by
  unfold sj_cor
  exact @decide_eq_true_iff _ (Classical.propDecidable _)
/-- if a round makes no label right that wasn't so before, all were right -/
theorem sj_prog {m : Nat} {S : Nat → Nat → Bool} (hS : ∀ x y, S x y = S y x) {lb : Nat → Int32} {L L' : Nat → Nat} (hV : sj_V m S lb L) (hB : ∀ a b, a < m → b < m → S a b = true → L' a ≤ L b) (h : ∀ y, y < m → sj_Cor m S L' y → sj_Cor m S L y) : sj_Fin m S L := by
  intro a ha
  obtain ⟨μ, hμ, hleast⟩ := pk_least (fun z => sj_rc m S a z) ⟨a, sj_rc_0⟩
  have hm := sj_rc_lt ha hμ
  have c0 : sj_Cor m S L μ := by
    intro b hb
    have h1 := (hV μ hm).2.1
    have h2 : ¬ b < μ := fun z => hleast b z (sj_rc_t hμ hb)
    omega
  have hall : μ < m ∧ sj_Cor m S L μ → a < m ∧ sj_Cor m S L a := by
    intro h0
    refine (sj_rc_c hS hμ) (fun z => z < m ∧ sj_Cor m S L z) h0 (fun x y hx hy hP e => ⟨hy, h y hy ?_⟩)
    intro b hb
    have e1 : L' y ≤ L x := hB y x hy hx ((hS y x).trans e)
    have e2 : L x ≤ b := hP.2 b (sj_rc_t (sj_rc_s sj_rc_0 hx hy e) hb)
    omega
  exact (hall ⟨hm, c0⟩).2
theorem sj_round {m : Nat} {S : Nat → Nat → Bool} (hS : ∀ x y, S x y = S y x) {lb : Nat → Int32} {L L' : Nat → Nat} {i : Nat} (hV : sj_V m S lb L) (hA : ∀ a, a < m → L' a ≤ L a) (hB : ∀ a b, a < m → b < m → S a b = true → L' a ≤ L b) (hK : sj_Fin m S L ∨ i ≤ sj_c (sj_cor m S L) m) : sj_Fin m S L' ∨ i + 1 ≤ sj_c (sj_cor m S L') m := by
  have mono : ∀ a, a < m → sj_Cor m S L a → sj_Cor m S L' a := fun a ha hc b hb => Nat.le_trans (hA a ha) (hc b hb)
  by_cases hF : sj_Fin m S L
  · exact Or.inl (fun a ha => mono a ha (hF a ha))
  · refine Or.inr ?_
    have hi := hK.resolve_left hF
    have ex : ∃ y, y < m ∧ sj_Cor m S L' y ∧ ¬ sj_Cor m S L y := by
      refine Classical.byContradiction (fun hne => hF (sj_prog hS hV hB (fun y hy hc => Classical.byContradiction (fun hn => hne ⟨y, hy, hc, hn⟩))))
    obtain ⟨y, hy, h1, h2⟩ := ex
    have hf : sj_cor m S L y = false := by
      cases e : sj_cor m S L y
      · rfl
      · exact absurd (sj_cor_t.mp e) h2
    have := sj_c_lt (f := sj_cor m S L) (g := sj_cor m S L') (n := m) (k := y) (fun a ha e => sj_cor_t.mpr (mono a ha (sj_cor_t.mp e))) hy hf (sj_cor_t.mpr h1)
    omega
theorem sj_still {m : Nat} {S : Nat → Nat → Bool} (hS : ∀ x y, S x y = S y x) {lb : Nat → Int32} {L L' : Nat → Nat} (hV : sj_V m S lb L) (hB : ∀ a b, a < m → b < m → S a b = true → L' a ≤ L b) (hC : ∀ a, a < m → L' a = L a) : sj_Fin m S L' := by
  have hF : sj_Fin m S L := sj_prog hS hV hB (fun y hy hc b hb => by rw [← hC y hy]; exact hc b hb)
  intro a ha b hb
  rw [hC a ha]
  exact hF a ha b hb
theorem sj_full {m : Nat} {S : Nat → Nat → Bool} {L : Nat → Nat} (h : sj_Fin m S L ∨ m ≤ sj_c (sj_cor m S L) m) : sj_Fin m S L := by
  rcases h with h | h
  · exact h
  · have h1 := sj_c_le (sj_cor m S L) m
    intro a ha
    exact sj_cor_t.mp (sj_c_full (by omega) a ha)
/-- two records have one label just if they hang together -/
theorem sj_lab {m : Nat} {S : Nat → Nat → Bool} (hS : ∀ x y, S x y = S y x) {lb : Nat → Int32} {L : Nat → Nat} (hV : sj_V m S lb L) (hF : sj_Fin m S L) {a b : Nat} (ha : a < m) (hb : b < m) : L b = L a ↔ sj_rc m S a b := by
  have ra := (hV a ha).2.2
  have rb := (hV b hb).2.2
  constructor
  · intro e
    rw [e] at rb
    exact sj_rc_t ra (sj_rc_c hS rb)
  · intro h
    have h1 := hF a ha (L b) (sj_rc_t h rb)
    have h2 := hF b hb (L a) (sj_rc_t (sj_rc_c hS h) ra)
    omega
/-- what holds within a round, at the pair a, b: L0 the labels at its start, c whether one has changed -/
def sj_Inv (m : Nat) (S : Nat → Nat → Bool) (L0 : Nat → Nat) (a b : Nat) (c : Bool) (lb : Nat → Int32) (L : Nat → Nat) : Prop :=
  sj_V m S lb L ∧ (∀ x, x < m → L x ≤ L0 x) ∧ (c = false → ∀ x, x < m → L x = L0 x) ∧ (∀ x y, x < a → y < m → S x y = true → L x ≤ L0 y) ∧ (∀ y, y < b → S a y = true → L a ≤ L0 y)
theorem sj_inv_keep {m : Nat} {S : Nat → Nat → Bool} {L0 : Nat → Nat} {a b : Nat} {c : Bool} {lb : Nat → Int32} {L : Nat → Nat} (hb : b < m) (h : sj_Inv m S L0 a b c lb L) (e : S a b = true → L a ≤ L b) : sj_Inv m S L0 a (b + 1) c lb L := by
  obtain ⟨h1, h2, h3, h4, h5⟩ := h
  refine ⟨h1, h2, h3, h4, fun y hy hs => ?_⟩
  by_cases e1 : y = b
  · subst e1
    exact Nat.le_trans (e hs) (h2 y hb)
  · exact h5 y (by omega) hs
theorem sj_inv_row {m : Nat} {S : Nat → Nat → Bool} {L0 : Nat → Nat} {a : Nat} {c : Bool} {lb : Nat → Int32} {L : Nat → Nat} (h : sj_Inv m S L0 a m c lb L) : sj_Inv m S L0 (a + 1) 0 c lb L := by
  obtain ⟨h1, h2, h3, h4, h5⟩ := h
  refine ⟨h1, h2, h3, fun x y hx hy hs => ?_, fun y hy => absurd hy (by omega)⟩
  by_cases e1 : x = a
  · subst e1
    exact h5 y hy hs
  · exact h4 x y (by omega) hy hs
theorem sj_inv_set {m : Nat} {S : Nat → Nat → Bool} {L0 : Nat → Nat} {a b : Nat} {c : Bool} {lb : Nat → Int32} {L : Nat → Nat} (ha : a < m) (hb : b < m) (h : sj_Inv m S L0 a b c lb L) (e : S a b = true) (hl : L b < L a) : sj_Inv m S L0 a (b + 1) true (upd lb a (lb b)) (fun x => if x = a then L b else L x) := by
  obtain ⟨h1, h2, h3, h4, h5⟩ := h
  refine ⟨fun x hx => ?_, fun x hx => ?_, (fun z => nomatch z), fun x y hx hy hs => ?_, fun y hy hs => ?_⟩
  · dsimp only
    by_cases e1 : x = a
    · subst e1
      rw [if_pos rfl, pk_us]
      have g := (h1 x hx).2.1
      exact ⟨(h1 b hb).1, by omega, sj_rc_t (sj_rc_s sj_rc_0 hx hb e) (h1 b hb).2.2⟩
    · rw [if_neg e1, pk_un e1]
      exact h1 x hx
  · dsimp only
    by_cases e1 : x = a
    · subst e1
      rw [if_pos rfl]
      have g := h2 x hx
      omega
    · rw [if_neg e1]
      exact h2 x hx
  · dsimp only
    rw [if_neg (by omega)]
    exact h4 x y hx hy hs
  · dsimp only
    rw [if_pos rfl]
    by_cases e1 : y = b
    · subst e1
      exact h2 y hb
    · have g := h5 y (by omega) hs
      omega
