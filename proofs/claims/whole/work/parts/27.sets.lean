section NC15
variable {G : nw_G} {σ : nw_S} {D : nd_D}
/-! sets as bits -/
theorem ns_sub {s t : Nat} : s &&& t = s ↔ ∀ i, s.testBit i = true → t.testBit i = true := by
  constructor
  · intro h i hi
    have := congrArg (fun z => z.testBit i) h
    simp only [Nat.testBit_and, hi, Bool.true_and] at this
    exact this
  · intro h
    apply Nat.eq_of_testBit_eq
    intro i
    rw [Nat.testBit_and]
    cases hi : s.testBit i with
    | false => rfl
    | true => rw [h i hi]; rfl
theorem ns_hi {s i n : Nat} (h : s < 2 ^ n) (hi : n ≤ i) : s.testBit i = false := Nat.testBit_lt_two_pow (Nat.lt_of_lt_of_le h (Nat.pow_le_pow_right (by decide) hi))
theorem ns_flip (s r i : Nat) : (s ^^^ 2 ^ r).testBit i = (s.testBit i != decide (r = i)) := by
  rw [Nat.testBit_xor, Nat.testBit_two_pow]
theorem ns_flip2 (s r : Nat) : s ^^^ 2 ^ r ^^^ 2 ^ r = s := by rw [Nat.xor_assoc, Nat.xor_self, Nat.xor_zero]
theorem ns_flip_lt {s r n : Nat} (h : s < 2 ^ n) (hr : r < n) : s ^^^ 2 ^ r < 2 ^ n := Nat.xor_lt_two_pow h (Nat.pow_lt_pow_right (by decide) hr)
theorem ns_dif (s t i : Nat) : (s &&& (4095 ^^^ t)).testBit i = (s.testBit i && (decide (i < 12) != t.testBit i)) := by
  rw [Nat.testBit_and, Nat.testBit_xor, show (4095 : Nat) = 2 ^ 12 - 1 from rfl, Nat.testBit_two_pow_sub_one]
theorem ns_and2 (s r : Nat) : (s &&& 2 ^ r = 0) ↔ s.testBit r = false := by
  constructor
  · intro h
    have := congrArg (fun z => z.testBit r) h
    simp only [Nat.testBit_and, Nat.testBit_two_pow, decide_true, Bool.and_true, Nat.zero_testBit] at this
    exact this
  · intro h
    apply Nat.eq_of_testBit_eq
    intro i
    rw [Nat.testBit_and, Nat.testBit_two_pow, Nat.zero_testBit]
    by_cases q : r = i
    · subst q; rw [h]; rfl
    · simp [q]
theorem ns_difz {s h : Nat} (hs : s < 4096) : (s &&& (4095 ^^^ h) = 0) ↔ s &&& h = s := by
  rw [ns_sub]
  constructor
  · intro e i hi
    have := congrArg (fun z => z.testBit i) e
    simp only [ns_dif, Nat.zero_testBit, hi, Bool.true_and] at this
    have hl : i < 12 := by
      rcases Nat.lt_or_ge i 12 with q | q
      · exact q
      · rw [ns_hi (n := 12) hs q] at hi; cases hi
    rw [show decide (i < 12) = true from by simp [hl]] at this
    cases hb : h.testBit i with
    | true => rfl
    | false => rw [hb] at this; cases this
  · intro e
    apply Nat.eq_of_testBit_eq
    intro i
    rw [ns_dif, Nat.zero_testBit]
    cases hi : s.testBit i with
    | false => rfl
    | true =>
      have hl : i < 12 := by
        rcases Nat.lt_or_ge i 12 with q | q
        · exact q
        · rw [ns_hi (n := 12) hs q] at hi; cases hi
      rw [e i hi]
      simp [hl]
theorem nd_kt_lt (hw : nd_wf D) (p : Nat) : nd_kt D p < 2 ^ nd_r D ∧ nd_kt D p < 4096 := by
  have h := nd_M_lt hw 1
  have : nd_kt D p ≤ nd_M D 1 := Nat.and_le_left
  omega
theorem nd_can_mono {s t : Nat} (h : nd_can D t) (hs : ∀ i, s.testBit i = true → t.testBit i = true) : nd_can D s := by
  obtain ⟨p, h1, h2⟩ := h
  exact ⟨p, h1, ns_sub.mpr (fun i hi => ns_sub.mp h2 i (hs i hi))⟩
/-- what one pass over the rules before r has handed down -/
def nd_pr (D : nd_D) (r s : Nat) : Prop := ∃ p, p < nd_P D ∧ s &&& nd_kt D p = s ∧ ∀ i, r ≤ i → s.testBit i = (nd_kt D p).testBit i
theorem nd_pr_0 {s : Nat} : nd_pr D 0 s ↔ ∃ p, p < nd_P D ∧ nd_kt D p = s := by
  constructor
  · rintro ⟨p, h1, h2, h3⟩
    exact ⟨p, h1, (Nat.eq_of_testBit_eq (fun i => (h3 i (Nat.zero_le _)).symm))⟩
  · rintro ⟨p, h1, h2⟩
    subst h2
    exact ⟨p, h1, Nat.and_self _, fun _ _ => rfl⟩
theorem nd_pr_R (hw : nd_wf D) {s : Nat} (hs : s < 2 ^ nd_r D) : nd_pr D (nd_r D) s ↔ nd_can D s := by
  constructor
  · rintro ⟨p, h1, h2, -⟩
    exact ⟨p, h1, h2⟩
  · rintro ⟨p, h1, h2⟩
    exact ⟨p, h1, h2, fun i hi => by rw [ns_hi hs hi, ns_hi (nd_kt_lt hw p).1 hi]⟩
theorem nd_pr_step {r s : Nat} : nd_pr D (r + 1) s ↔ nd_pr D r s ∨ (s.testBit r = false ∧ nd_pr D r (s ^^^ 2 ^ r)) := by
  constructor
  · rintro ⟨p, h1, h2, h3⟩
    by_cases q : s.testBit r = (nd_kt D p).testBit r
    · left
      refine ⟨p, h1, h2, fun i hi => ?_⟩
      by_cases y : i = r
      · subst y; exact q
      · exact h3 i (by omega)
    · right
      have hs : s.testBit r = false := by
        cases hb : s.testBit r with
        | false => rfl
        | true => rw [hb, ns_sub.mp h2 r hb] at q; exact absurd rfl q
      have hk : (nd_kt D p).testBit r = true := by
        cases hb : (nd_kt D p).testBit r with
        | true => rfl
        | false => rw [hs, hb] at q; exact absurd rfl q
      refine ⟨hs, p, h1, ns_sub.mpr (fun i hi => ?_), fun i hi => ?_⟩
      · rw [ns_flip] at hi
        by_cases y : r = i
        · subst y; exact hk
        · simp [y] at hi
          exact ns_sub.mp h2 i hi
      · rw [ns_flip]
        by_cases y : r = i
        · subst y; simp [hs, hk]
        · simp [y]
          exact h3 i (by omega)
  · rintro (⟨p, h1, h2, h3⟩ | ⟨hs, p, h1, h2, h3⟩)
    · exact ⟨p, h1, h2, fun i hi => h3 i (by omega)⟩
    · refine ⟨p, h1, ns_sub.mpr (fun i hi => ?_), fun i hi => ?_⟩
      · have := ns_sub.mp h2 i
        rw [ns_flip] at this
        by_cases y : r = i
        · subst y; rw [hs] at hi; cases hi
        · simp [y] at this
          exact this hi
      · have := h3 i (by omega)
        rw [ns_flip] at this
        have y : ¬ r = i := by omega
        simp [y] at this
        exact this
/-! no clash holds another, no relaxation holds another -/
theorem ns_more {s t : Nat} (h : s &&& t = s) (q : s ≠ t) : ∃ r, t.testBit r = true ∧ s.testBit r = false := by
  have hsub := ns_sub.mp h
  rcases Classical.em (∃ r, t.testBit r = true ∧ s.testBit r = false) with y | y
  · exact y
  · exfalso
    apply q
    apply Nat.eq_of_testBit_eq
    intro i
    cases hi : s.testBit i with
    | true => exact (hsub i hi).symm
    | false =>
      cases hj : t.testBit i with
      | false => rfl
      | true => exact absurd ⟨i, hj, hi⟩ y
theorem ns_12 (hw : nd_wf D) {t r : Nat} (ht : t &&& nd_M D 1 = t) (hr : t.testBit r = true) : r < 12 := by
  have hm := ns_sub.mp ht r hr
  unfold nd_M at hm
  rw [nd_md_bit] at hm
  have := hw.2.2.2.2.1
  simp at hm
  omega
theorem nd_cl_anti (hw : nd_wf D) {s t : Nat} (hs : nd_cl D s) (ht : nd_cl D t) (h : s &&& t = s) : s = t := by
  rcases Classical.em (s = t) with q | q
  · exact q
  · exfalso
    have hsub := ns_sub.mp h
    obtain ⟨r, hr⟩ := ns_more h q
    exact hs.2.1 (nd_can_mono (ht.2.2 r (ns_12 hw ht.1 hr.1) hr.1) (fun i hi => by
      rw [ns_flip]
      by_cases y : r = i
      · subst y; rw [hr.2] at hi; cases hi
      · simp [y]; exact hsub i hi))
theorem nd_rx_anti (hw : nd_wf D) {s t : Nat} (hs : nd_rx D s) (ht : nd_rx D t) (h : s &&& t = s) : s = t := by
  rcases Classical.em (s = t) with q | q
  · exact q
  · exfalso
    have hsub := ns_sub.mp h
    obtain ⟨r, hr⟩ := ns_more h q
    have hr12 := ns_12 hw ht.1 hr.1
    refine ht.2.2 r hr12 hr.1 (nd_can_mono hs.2.1 (fun i hi => ?_))
    rw [Nat.testBit_or, Nat.testBit_two_pow, ns_dif] at hi
    rw [ns_dif]
    by_cases y : r = i
    · subst y
      rw [ns_sub.mp ht.1 r hr.1, hr.2]
      simp [hr12]
    · simp [y] at hi
      obtain ⟨h1, h2⟩ := hi
      have h12 : i < 12 := by
        rcases Nat.lt_or_ge i 12 with z | z
        · exact z
        · rw [ns_hi (n := 12) (nd_M_lt hw 1).2 z] at h1; cases h1
      have ht0 : t.testBit i = false := by
        cases hb : t.testBit i with
        | false => rfl
        | true => rw [hb] at h2; simp [h12] at h2
      have hs0 : s.testBit i = false := by
        cases hb : s.testBit i with
        | false => rfl
        | true => rw [hsub i hb] at ht0; cases ht0
      rw [h1, hs0]
      simp [h12]
theorem ns_php : ∀ (m n : Nat) (f : Nat → Nat), (∀ i, i < n → f i < m) → (∀ i j, i < j → j < n → f i ≠ f j) → n ≤ m
  | 0, n, f, h, _ => by
    rcases Nat.eq_zero_or_pos n with q | q
    · omega
    · exact absurd (h 0 q) (by omega)
  | m + 1, n, f, h, hd => by
    rcases Classical.em (∃ i, i < n ∧ f i = m) with ⟨i, hi, hm⟩ | q
    · have key := ns_php m (n - 1) (fun j => if j = i then f (n - 1) else f j) (fun j hj => ?_) (fun a b hab hb => ?_)
      · omega
      · try dsimp only
        split
        · rename_i y
          subst y
          have h1 := h (n - 1) (by omega)
          have h2 := hd j (n - 1) (by omega) (by omega)
          omega
        · rename_i y
          have h1 := h j (by omega)
          rcases Nat.lt_trichotomy j i with z | z | z
          · have := hd j i z hi; omega
          · exact absurd z y
          · have := hd i j z (by omega); omega
      · try dsimp only
        by_cases ya : a = i
        · rw [if_pos ya, if_neg (by omega)]
          exact fun e => hd b (n - 1) (by omega) (by omega) e.symm
        · rw [if_neg ya]
          by_cases yb : b = i
          · rw [if_pos yb]
            exact hd a (n - 1) (by omega) (by omega)
          · rw [if_neg yb]
            exact hd a b hab (by omega)
    · have := ns_php m n f (fun i hi => by
        have h1 := h i hi
        have h2 : f i ≠ m := fun z => q ⟨i, hi, z⟩
        omega) hd
      omega
end NC15
