section NC12
variable {G : nw_G} {σ : nw_S} {D : nd_D}
def nd_rt (k a b n : Int) : Prop := (k = 0 ∧ 0 ≤ n ∧ n ≤ 63) ∨ (k = 1 ∧ a ≠ b) ∨ (k = 2 ∧ a ≠ b) ∨ (k = 3 ∧ a ≠ b ∧ -5 ≤ n ∧ n ≤ 5) ∨ (k = 4 ∧ a ≠ b ∧ 0 ≤ n ∧ n ≤ 5) ∨ (k = 5 ∧ a ≠ b ∧ 0 ≤ n ∧ n ≤ 63) ∨ (k = 6 ∧ 0 ≤ a ∧ a ≤ 5 ∧ 0 ≤ n ∧ n ≤ 5) ∨ (k = 7 ∧ 0 ≤ a ∧ a ≤ 5 ∧ 0 ≤ n ∧ n ≤ 5) ∨ (k = 8 ∧ 0 ≤ a ∧ a ≤ b ∧ b ≤ 25)
theorem rt_0 {a b n : Int} : nd_rt 0 a b n ↔ (0 ≤ n ∧ n ≤ 63) := by simp [nd_rt]
theorem rt_1 {a b n : Int} : nd_rt 1 a b n ↔ a ≠ b := by simp [nd_rt]
theorem rt_2 {a b n : Int} : nd_rt 2 a b n ↔ a ≠ b := by simp [nd_rt]
theorem rt_3 {a b n : Int} : nd_rt 3 a b n ↔ (a ≠ b ∧ -5 ≤ n ∧ n ≤ 5) := by simp [nd_rt]
theorem rt_4 {a b n : Int} : nd_rt 4 a b n ↔ (a ≠ b ∧ 0 ≤ n ∧ n ≤ 5) := by simp [nd_rt]
theorem rt_5 {a b n : Int} : nd_rt 5 a b n ↔ (a ≠ b ∧ 0 ≤ n ∧ n ≤ 63) := by simp [nd_rt]
theorem rt_6 {a b n : Int} : nd_rt 6 a b n ↔ (0 ≤ a ∧ a ≤ 5 ∧ 0 ≤ n ∧ n ≤ 5) := by simp [nd_rt]
theorem rt_7 {a b n : Int} : nd_rt 7 a b n ↔ (0 ≤ a ∧ a ≤ 5 ∧ 0 ≤ n ∧ n ≤ 5) := by simp [nd_rt]
theorem rt_8 {a b n : Int} : nd_rt 8 a b n ↔ (0 ≤ a ∧ a ≤ b ∧ b ≤ 25) := by simp [nd_rt]
theorem rt_in {k a b n : Int} (h : nd_rt k a b n) : 0 ≤ k ∧ k ≤ 8 := by
  rcases h with ⟨h, -⟩ | ⟨h, -⟩ | ⟨h, -⟩ | ⟨h, -⟩ | ⟨h, -⟩ | ⟨h, -⟩ | ⟨h, -⟩ | ⟨h, -⟩ | ⟨h, -⟩ <;> omega
def nd_nm (D : nd_D) (k a b : Int) : Prop := (0 ≤ k ∧ k ≤ 5 ∧ ¬ nd_isC D a) ∨ (1 ≤ k ∧ k ≤ 5 ∧ ¬ nd_isC D b)
def nd_fs (k a b n w : Int) (i : Nat) : Int := if i = 0 then k else if i = 1 then a else if i = 2 then b else if i = 3 then n else if i = 4 then w else 1
def nd_aR (D : nd_D) (g : Nat → Int) : nd_D := (nd_n D, nd_m D, nd_w D, nd_r D + 1, fun i r => if r = nd_r D then g i else nd_f D i r)
theorem nd_aR_f {g : Nat → Int} {i r : Nat} (h : r < nd_r D) : nd_f (nd_aR D g) i r = nd_f D i r := if_neg (by omega)
theorem nd_aR_fn {g : Nat → Int} {i : Nat} : nd_f (nd_aR D g) i (nd_r D) = g i := if_pos rfl
theorem nd_aR_wf (hw : nd_wf D) {g : Nat → Int} (hR : nd_r D < 12) (hg : nd_ok (nd_n D) g) : nd_wf (nd_aR D g) := by
  refine ⟨hw.1, hw.2.1, hw.2.2.1, hw.2.2.2.1, hR, fun r hr => ?_⟩
  have hr : r < nd_r D + 1 := hr
  by_cases q : r = nd_r D
  · subst q
    have : (fun i => nd_f (nd_aR D g) i (nd_r D)) = g := by funext i; exact nd_aR_fn
    rw [this]
    exact hg
  · have : (fun i => nd_f (nd_aR D g) i r) = (fun i => nd_f D i r) := by funext i; exact nd_aR_f (by omega)
    rw [this]
    exact hw.2.2.2.2.2 r (by omega)
noncomputable def nq_rule (D : nd_D) (k a b n w : Int) : Int := nd_it (nd_nm D k a b) (-1000001) (nd_it (nd_rt k a b n ∧ 1 ≤ w ∧ w ≤ 1000) (if nd_r D < 12 then nd_r D else -1000003) (-1000002))
noncomputable def nu_rule (D : nd_D) (k a b n w : Int) : nd_D := nd_iD (¬ nd_nm D k a b ∧ (nd_rt k a b n ∧ 1 ≤ w ∧ w ≤ 1000) ∧ nd_r D < 12) (nd_aR D (nd_fs k a b n w)) D
theorem nd_fs_ok {k a b n w : Int} (hk : nw_r k) (ha : nw_r a) (hb : nw_r b) (hn : nw_r n) (h : ¬ nd_nm D k a b) (h2 : nd_rt k a b n ∧ 1 ≤ w ∧ w ≤ 1000) : nd_ok (nd_n D) (nd_fs k a b n w) := by
  obtain ⟨h2, h3, h4⟩ := h2
  have hk8 := rt_in h2
  refine ⟨fun i hi => ?_, hk8, fun q => ?_, fun q q2 => ?_, fun q => ?_, fun q => ?_, fun q => ?_, ⟨h3, h4⟩, ⟨by show (0 : Int) ≤ 1; decide, by show (1 : Int) ≤ 2; decide⟩⟩
  · match i, hi with
    | 0, _ => exact hk
    | 1, _ => exact ha
    | 2, _ => exact hb
    | 3, _ => exact hn
    | 4, _ => exact ⟨by show -2147483648 ≤ w; omega, by show w < 2147483648; omega⟩
    | 5, _ => exact ⟨by show (-2147483648 : Int) ≤ 1; decide, by show (1 : Int) < 2147483648; decide⟩
    | i + 6, hi => omega
  · have q : k ≤ 5 := q
    show 0 ≤ a ∧ a < nd_n D
    rcases Classical.em (nd_isC D a) with y | y
    · exact y
    · exact absurd (Or.inl ⟨hk8.1, q, y⟩) h
  · have q : 1 ≤ k := q
    have q2 : k ≤ 5 := q2
    show 0 ≤ b ∧ b < nd_n D
    rcases Classical.em (nd_isC D b) with y | y
    · exact y
    · exact absurd (Or.inr ⟨q, q2, y⟩) h
  · have q : k = 0 := q
    subst q
    exact rt_0.mp h2
  · have q : k = 3 := q
    subst q
    exact (rt_3.mp h2).2
  · have q : k = 5 := q
    subst q
    exact (rt_5.mp h2).2
theorem nu_rule_wf (hw : nd_wf D) {k a b n w : Int} (hk : nw_r k) (ha : nw_r a) (hb : nw_r b) (hn : nw_r n) : nd_wf (nu_rule D k a b n w) := by
  unfold nu_rule
  by_cases q : ¬ nd_nm D k a b ∧ (nd_rt k a b n ∧ 1 ≤ w ∧ w ≤ 1000) ∧ nd_r D < 12
  · rw [nd_iD_t q]
    exact nd_aR_wf hw q.2.2 (nd_fs_ok hk ha hb hn q.1 q.2.1)
  · rw [nd_iD_f q]; exact hw
theorem c51 {Φ : Int → nw_S → Prop} {x0 : Int} (h0 : nw_r x0) (ht : 1 ≤ x0 → x0 ≤ 1000 → Φ 1 σ) (hf : ¬ (1 ≤ x0 ∧ x0 ≤ 1000) → Φ 0 σ) : nw_TI G 51 [.inr x0] σ Φ :=
  nw_TI_of (by decide) (Nat.le_of_ble_eq_true rfl) (bk51_0 ⟨h0, fun q => hf (by omega), fun q => ⟨fun q2 => hf (by omega), fun q2 => ht q q2⟩⟩)
theorem c52 {Φ : Int → nw_S → Prop} (hw : nd_wf D) (hC : nc_ch D σ) {x1 x2 x3 : Int} (h1 : nw_r x1) (h2 : nw_r x2) (h3 : nw_r x3) (ht : nd_nm D x1 x2 x3 → Φ 1 σ) (hf : ¬ nd_nm D x1 x2 x3 → Φ 0 σ) : nw_TI G 52 [.inl 0, .inr x1, .inr x2, .inr x3] σ Φ := by
  refine nw_TI_of (by decide) (Nat.le_of_ble_eq_true rfl) (bk52_0 ⟨h1, fun q => ⟨fun q2 => hf ?_, fun q2 => ⟨fun q3 => hf ?_, fun q3 => c1' hw hC h2 (fun z => ⟨by decide, fun y => absurd y (by decide), fun _ => c1' hw hC h3 (fun z3 => ⟨by decide, fun _ => hf ?_, fun y => absurd y (by decide)⟩) (fun z3 => ⟨by decide, fun y => absurd rfl y, fun _ => ht ?_⟩)⟩) (fun z => ⟨by decide, fun _ => ht ?_, fun y => absurd rfl y⟩)⟩⟩, fun q => c1' hw hC h2 (fun z => ⟨by decide, fun _ => hf ?_, fun y => absurd y (by decide)⟩) (fun z => ⟨by decide, fun y => absurd rfl y, fun _ => ht ?_⟩)⟩)
  · rintro (⟨a, b, c⟩ | ⟨a, b, c⟩) <;> omega
  · rintro (⟨a, b, c⟩ | ⟨a, b, c⟩) <;> omega
  · rintro (⟨a, b, c⟩ | ⟨a, b, c⟩)
    · exact c z
    · exact c z3
  · exact Or.inr ⟨q2, q3, z3⟩
  · exact Or.inl ⟨by omega, q3, z⟩
  · rintro (⟨a, b, c⟩ | ⟨a, b, c⟩)
    · exact c z
    · omega
  · exact Or.inl ⟨by omega, by omega, z⟩
theorem c53 {Φ : Int → nw_S → Prop} {x0 x1 x2 x3 : Int} (h0 : nw_r x0) (h1 : nw_r x1) (h2 : nw_r x2) (h3 : nw_r x3) (ht : nd_rt x0 x1 x2 x3 → Φ 1 σ) (hf : ¬ nd_rt x0 x1 x2 x3 → Φ 0 σ) : nw_TI G 53 [.inr x0, .inr x1, .inr x2, .inr x3] σ Φ := by
  refine nw_TI_of (by decide) (Nat.le_of_ble_eq_true rfl) (bk53_0 ⟨h0, fun q => hf (fun z => by have := rt_in z; omega),
    fun q => by subst q; exact ⟨h3, fun q2 => hf (fun z => by have := rt_0.mp z; omega), fun q2 => ⟨fun q3 => hf (fun z => by have := rt_0.mp z; omega), fun q3 => ht (rt_0.mpr (by omega))⟩⟩,
    fun q => by subst q; exact ⟨h1, h2, fun q2 => hf (fun z => by have := rt_1.mp z; omega), fun q2 => ht (rt_1.mpr (by omega))⟩,
    fun q => by subst q; exact ⟨h1, h2, fun q2 => hf (fun z => by have := rt_2.mp z; omega), fun q2 => ht (rt_2.mpr (by omega))⟩,
    fun q => by subst q; exact ⟨h1, h2, fun q2 => hf (fun z => by have := rt_3.mp z; omega), fun q2 => ⟨h3, fun q3 => hf (fun z => by have := rt_3.mp z; omega), fun q3 => ⟨fun q4 => hf (fun z => by have := rt_3.mp z; omega), fun q4 => ht (rt_3.mpr (by omega))⟩⟩⟩,
    fun q => by subst q; exact ⟨h1, h2, fun q2 => hf (fun z => by have := rt_4.mp z; omega), fun q2 => ⟨h3, fun q3 => hf (fun z => by have := rt_4.mp z; omega), fun q3 => ⟨fun q4 => hf (fun z => by have := rt_4.mp z; omega), fun q4 => ht (rt_4.mpr (by omega))⟩⟩⟩,
    fun q => by subst q; exact ⟨h1, h2, fun q2 => hf (fun z => by have := rt_5.mp z; omega), fun q2 => ⟨h3, fun q3 => hf (fun z => by have := rt_5.mp z; omega), fun q3 => ⟨fun q4 => hf (fun z => by have := rt_5.mp z; omega), fun q4 => ht (rt_5.mpr (by omega))⟩⟩⟩,
    fun q => by subst q; exact ⟨h1, fun q2 => hf (fun z => by have := rt_6.mp z; omega), fun q2 => ⟨fun q3 => hf (fun z => by have := rt_6.mp z; omega), fun q3 => ⟨h3, fun q4 => hf (fun z => by have := rt_6.mp z; omega), fun q4 => ⟨fun q5 => hf (fun z => by have := rt_6.mp z; omega), fun q5 => ht (rt_6.mpr (by omega))⟩⟩⟩⟩,
    fun q => by subst q; exact ⟨h1, fun q2 => hf (fun z => by have := rt_7.mp z; omega), fun q2 => ⟨fun q3 => hf (fun z => by have := rt_7.mp z; omega), fun q3 => ⟨h3, fun q4 => hf (fun z => by have := rt_7.mp z; omega), fun q4 => ⟨fun q5 => hf (fun z => by have := rt_7.mp z; omega), fun q5 => ht (rt_7.mpr (by omega))⟩⟩⟩⟩,
    fun q => by subst q; exact ⟨h1, fun q2 => hf (fun z => by have := rt_8.mp z; omega), fun q2 => ⟨h2, fun q3 => hf (fun z => by have := rt_8.mp z; omega), fun q3 => ⟨fun q4 => hf (fun z => by have := rt_8.mp z; omega), fun q4 => ht (rt_8.mpr (by omega))⟩⟩⟩⟩)
theorem c72 {Φ : Int → nw_S → Prop} {x0 x1 x2 x3 : Int} (h0 : nw_r x0) (h1 : nw_r x1) (h2 : nw_r x2) (h3 : nw_r x3) (ht : nd_rt x0 x1 x2 x3 → Φ 1 σ) (hf : ¬ nd_rt x0 x1 x2 x3 → Φ 0 σ) : nw_TI G 72 [.inr x0, .inr x1, .inr x2, .inr x3] σ Φ := by
  refine nw_TI_of (by decide) (Nat.le_of_ble_eq_true rfl) (bk72_0 ⟨h0, fun q => hf (fun z => by have := rt_in z; omega),
    fun q => by subst q; exact c66 h3 (by decide) (by decide) (fun a b => ⟨by decide, ht (rt_0.mpr (by omega))⟩) (fun a => ⟨by decide, hf (fun z => by have := rt_0.mp z; omega)⟩),
    fun q => by subst q; exact ⟨h1, h2, fun q2 => hf (fun z => by have := rt_1.mp z; omega), fun q2 => ht (rt_1.mpr (by omega))⟩,
    fun q => by subst q; exact ⟨h1, h2, fun q2 => hf (fun z => by have := rt_2.mp z; omega), fun q2 => ht (rt_2.mpr (by omega))⟩,
    fun q => by subst q; exact ⟨h1, h2, fun q2 => hf (fun z => by have := rt_3.mp z; omega), fun q2 => c66 h3 (by decide) (by decide) (fun a b => ⟨by decide, fun y => absurd y (by decide), fun _ => ht (rt_3.mpr (by omega))⟩) (fun a => ⟨by decide, fun _ => hf (fun z => by have := rt_3.mp z; omega), fun y => absurd rfl y⟩)⟩,
    fun q => by subst q; exact ⟨h1, h2, fun q2 => hf (fun z => by have := rt_4.mp z; omega), fun q2 => c66 h3 (by decide) (by decide) (fun a b => ⟨by decide, fun y => absurd y (by decide), fun _ => ht (rt_4.mpr (by omega))⟩) (fun a => ⟨by decide, fun _ => hf (fun z => by have := rt_4.mp z; omega), fun y => absurd rfl y⟩)⟩,
    fun q => by subst q; exact ⟨h1, h2, fun q2 => hf (fun z => by have := rt_5.mp z; omega), fun q2 => c66 h3 (by decide) (by decide) (fun a b => ⟨by decide, fun y => absurd y (by decide), fun _ => ht (rt_5.mpr (by omega))⟩) (fun a => ⟨by decide, fun _ => hf (fun z => by have := rt_5.mp z; omega), fun y => absurd rfl y⟩)⟩,
    fun q => by subst q; exact c66 h1 (by decide) (by decide) (fun a b => ⟨by decide, fun y => absurd y (by decide), fun _ => c66 h3 (by decide) (by decide) (fun a b => ⟨by decide, fun y => absurd y (by decide), fun _ => ht (rt_6.mpr (by omega))⟩) (fun a => ⟨by decide, fun _ => hf (fun z => by have := rt_6.mp z; omega), fun y => absurd rfl y⟩)⟩) (fun a => ⟨by decide, fun _ => hf (fun z => by have := rt_6.mp z; omega), fun y => absurd rfl y⟩),
    fun q => by subst q; exact c66 h1 (by decide) (by decide) (fun a b => ⟨by decide, fun y => absurd y (by decide), fun _ => c66 h3 (by decide) (by decide) (fun a b => ⟨by decide, fun y => absurd y (by decide), fun _ => ht (rt_7.mpr (by omega))⟩) (fun a => ⟨by decide, fun _ => hf (fun z => by have := rt_7.mp z; omega), fun y => absurd rfl y⟩)⟩) (fun a => ⟨by decide, fun _ => hf (fun z => by have := rt_7.mp z; omega), fun y => absurd rfl y⟩),
    fun q => by subst q; exact c66 h1 (by decide) (by decide) (fun a b => ⟨by decide, fun y => absurd y (by decide), fun _ => c66 h2 h1 (by decide) (fun a b => ⟨by decide, fun y => absurd y (by decide), fun _ => ht (rt_8.mpr (by omega))⟩) (fun a => ⟨by decide, fun _ => hf (fun z => by have := rt_8.mp z; omega), fun y => absurd rfl y⟩)⟩) (fun a => ⟨by decide, fun _ => hf (fun z => by have := rt_8.mp z; omega), fun y => absurd rfl y⟩)⟩)
theorem nd_aR_C (hw : nd_wf D) {g : Nat → Int} {s : Nat} (hs : s < 2 ^ nd_r D) : nd_C (nd_aR D g) s = nd_C D s ∧ nd_C (nd_aR D g) (s + 2 ^ nd_r D) = nd_C D s + g 4 := by
  have e : ∀ s, nd_co (nd_f (nd_aR D g)) s (nd_r D) = nd_co (nd_f D) s (nd_r D) := fun s => nd_co_cg (nd_r D) (fun r hr => nd_aR_f hr)
  constructor
  · show nd_co (nd_f (nd_aR D g)) s (nd_r D) + (if s.testBit (nd_r D) then nd_f (nd_aR D g) 4 (nd_r D) else 0) = _
    rw [e, Nat.testBit_lt_two_pow hs]
    simp [nd_C]
  · show nd_co (nd_f (nd_aR D g)) (s + 2 ^ nd_r D) (nd_r D) + (if (s + 2 ^ nd_r D).testBit (nd_r D) then nd_f (nd_aR D g) 4 (nd_r D) else 0) = _
    rw [Nat.add_comm s, Nat.testBit_two_pow_add_eq, Nat.testBit_lt_two_pow hs, nd_aR_fn, e]
    have : ∀ R, R ≤ nd_r D → nd_co (nd_f D) (2 ^ nd_r D + s) R = nd_co (nd_f D) s R := by
      intro R
      induction R with
      | zero => intro _; rfl
      | succ R ih =>
        intro hR
        unfold nd_co
        rw [ih (by omega), Nat.testBit_two_pow_add_gt (by omega)]
    rw [this _ (Nat.le_refl _)]
    simp [nd_C]
/-- Rules.add -/
theorem c15 {Φ : Int → nw_S → Prop} (hw : nd_wf D) (hC : nc_ru D σ) (hK : ∀ s, s < 2 ^ nd_r D → σ 13 s = nd_C D s) (hR : nd_r D < 12) {x1 x2 x3 x4 x5 : Int} (h : ∀ u : nw_S, (∀ j, j < 6 ∨ 14 ≤ j → u j = σ j) → nc_ru (nd_aR D (nd_fs x1 x2 x3 x4 x5)) u → (∀ s, s < 2 ^ (nd_r D + 1) → u 13 s = nd_C (nd_aR D (nd_fs x1 x2 x3 x4 x5)) s) → Φ (nd_r D) u) : nw_TI G 15 [.inl 6, .inr x1, .inr x2, .inr x3, .inr x4, .inr x5] σ Φ := by
  have e := hC.1
  have hp := nd_pw (r := nd_r D) (by omega)
  have hp1 := nd_pw (r := nd_r D + 1) (by omega)
  rw [Nat.pow_succ] at hp1
  refine nw_TI_of (by decide) (Nat.le_of_ble_eq_true rfl) (bk15_0 ?_)
  rw [e, Int.toNat_natCast]
  refine ⟨by omega, ?_⟩
  generalize hτ : nw_up (nw_up (nw_up (nw_up (nw_up (nw_up σ 7 (nd_r D) x1) 8 (nd_r D) x2) 9 (nd_r D) x3) 10 (nd_r D) x4) 11 (nd_r D) x5) 12 (nd_r D) 1 = τ0
  have t6 : τ0 6 = σ 6 := by rw [← hτ, nu_ne (by decide), nu_ne (by decide), nu_ne (by decide), nu_ne (by decide), nu_ne (by decide), nu_ne (by decide)]
  have t13 : τ0 13 = σ 13 := by rw [← hτ, nu_ne (by decide), nu_ne (by decide), nu_ne (by decide), nu_ne (by decide), nu_ne (by decide), nu_ne (by decide)]
  have tj : ∀ j, j < 6 ∨ 14 ≤ j → τ0 j = σ j := fun j q => by rw [← hτ, nu_ne (by omega), nu_ne (by omega), nu_ne (by omega), nu_ne (by omega), nu_ne (by omega), nu_ne (by omega)]
  have tf : ∀ i r, i < 6 → r < nd_r D + 1 → τ0 (7 + i) r = nd_f (nd_aR D (nd_fs x1 x2 x3 x4 x5)) i r := by
    intro i r hi hr
    by_cases q : r = nd_r D
    · subst q
      rw [nd_aR_fn, ← hτ]
      match i, hi with
      | 0, _ => rw [nu_ne (by decide), nu_ne (by decide), nu_ne (by decide), nu_ne (by decide), nu_ne (by decide), nu_at]; rfl
      | 1, _ => rw [nu_ne (by decide), nu_ne (by decide), nu_ne (by decide), nu_ne (by decide), nu_at]; rfl
      | 2, _ => rw [nu_ne (by decide), nu_ne (by decide), nu_ne (by decide), nu_at]; rfl
      | 3, _ => rw [nu_ne (by decide), nu_ne (by decide), nu_at]; rfl
      | 4, _ => rw [nu_ne (by decide), nu_at]; rfl
      | 5, _ => rw [nu_at]; rfl
      | i + 6, hi => omega
    · rw [nd_aR_f (by omega), ← hC.2 i r hi (by omega), ← hτ]
      simp [nw_up, q]
  have key : ∀ (w i : Nat) (τ : nw_S) (x8 : Int), i + w = 2 ^ nd_r D → x8 = i → (∀ j, j ≠ 13 → τ j = τ0 j) → (∀ s, s < 2 ^ nd_r D → τ 13 s = nd_C D s) → (∀ s, s < i → τ 13 (s + 2 ^ nd_r D) = nd_C D s + x5) → nw_V G 15 (nw_pi Φ) 65 [some (.inl 6), some (.inr x1), some (.inr x2), some (.inr x3), some (.inr x4), some (.inr x5), some (.inr (nd_r D : Int)), some (.inr ((2 ^ nd_r D : Nat) : Int)), some (.inr x8)] [] τ := by
    intro w
    induction w with
    | zero =>
      intro i τ x8 hi h8 hj hlo hhi
      subst h8
      refine bk15_65 ⟨by omega, by omega, fun _ => h _ (fun j q => ?_) ⟨?_, fun i r hi2 hr => ?_⟩ (fun s hs => ?_), fun q => by omega⟩
      · rw [nu_ne (by omega), hj j (by omega)]; exact tj j q
      · rw [nu_at, hj 6 (by decide), t6, e]
        show _ = ((nd_r D + 1 : Nat) : Int)
        push_cast
        rfl
      · rw [nu_ne (by omega), hj (7 + i) (by omega)]; exact tf i r hi2 hr
      · rw [Nat.pow_succ] at hs
        rw [nu_ne (by decide)]
        by_cases q : s < 2 ^ nd_r D
        · rw [hlo s q, (nd_aR_C hw q).1]
        · have hs2 : s - 2 ^ nd_r D < 2 ^ nd_r D := by omega
          have := hhi (s - 2 ^ nd_r D) (by omega)
          rw [show s - 2 ^ nd_r D + 2 ^ nd_r D = s from by omega] at this
          have h2 := (nd_aR_C hw (g := nd_fs x1 x2 x3 x4 x5) hs2).2
          rw [show s - 2 ^ nd_r D + 2 ^ nd_r D = s from by omega] at h2
          rw [this, h2]
          rfl
    | succ w ih =>
      intro i τ x8 hi h8 hj hlo hhi
      subst h8
      have ec : ((i : Int) + ((2 ^ nd_r D : Nat) : Int)) = ((i + 2 ^ nd_r D : Nat) : Int) := by omega
      refine bk15_65 ⟨by omega, by omega, fun q => by omega, fun _ => ?_⟩
      rw [ec]
      simp only [Int.toNat_natCast]
      refine ⟨by omega, by omega, ih (i + 1) _ _ (by omega) (by omega) (fun j q => by rw [nu_ne q]; exact hj j q) (fun s hs => by rw [nu_nj (by omega)]; exact hlo s hs) (fun s hs => ?_)⟩
      by_cases q : s = i
      · subst q; rw [nu_at, hlo s (by omega)]
      · rw [nu_nj (by omega)]; exact hhi s (by omega)
  exact c14 (by rw [t6]; exact e) (by omega) (key (2 ^ nd_r D) 0 τ0 _ (by omega) rfl (fun _ _ => rfl) (fun s hs => by rw [t13]; exact hK s hs) (fun s hs => by omega))
theorem nd_aR_B {g : Nat → Int} (p : Nat) : nd_bs (nd_n D) (nd_x (nd_aR D g) p) (nd_f (nd_aR D g)) (nd_r D) = nd_B D p := nd_bs_cg (nd_r D) (fun i r _ hr => nd_aR_f hr)
theorem c29 {Φ : Int → nw_S → Prop} (hw : nd_wf D) (hC : nc_st D σ) {x1 x2 x3 x4 x5 : Int} (h1 : nw_r x1) (h2 : nw_r x2) (h3 : nw_r x3) (h4 : nw_r x4) (h5 : nw_r x5) (h : ∀ u : nw_S, nc_st (nu_rule D x1 x2 x3 x4 x5) u → (∀ k, 26 ≤ k → u k = σ k) → Φ (nq_rule D x1 x2 x3 x4 x5) u) : nw_TI G 29 [.inl 0, .inr x1, .inr x2, .inr x3, .inr x4, .inr x5] σ Φ := by
  have hR := hw.2.2.2.2.1
  have e := hC.1.2.1.1
  refine nw_TI_of (by decide) (Nat.le_of_ble_eq_true rfl) (bk29_0 (c52 hw hC.1.1 h1 h2 h3 (fun z => ?_) (fun z => ?_)))
  · rw [nq_rule, nd_it_t z, nu_rule, nd_iD_f (fun y => y.1 z)] at h
    exact ⟨by decide, fun y => absurd y (by decide), fun _ => h σ hC (fun _ _ => rfl)⟩
  · rw [nq_rule, nd_it_f z] at h
    refine ⟨by decide, fun _ => c53 h1 h2 h3 h4 (fun z2 => ?_) (fun z2 => ?_), fun y => absurd rfl y⟩
    · refine ⟨by decide, fun y => absurd y (by decide), fun _ => c51 h5 (fun a b => ?_) (fun a => ?_)⟩
      · rw [nd_it_t ⟨z2, a, b⟩] at h
        rw [e]
        refine ⟨by decide, fun _ => ⟨by omega, fun q => ?_, fun q => ?_⟩, fun y => absurd y (by decide)⟩
        · have hR12 : nd_r D < 12 := by omega
          rw [if_pos hR12, nu_rule, nd_iD_t ⟨z, ⟨z2, a, b⟩, hR12⟩] at h
          have hw' := nd_aR_wf hw hR12 (nd_fs_ok h1 h2 h3 h4 z ⟨z2, a, b⟩)
          refine c15 hw hC.1.2.1 hC.1.2.2.2.1 hR12 (fun u1 e1 hru hco => ?_)
          have hch : nc_ch (nd_aR D (nd_fs x1 x2 x3 x4 x5)) u1 := by
            obtain ⟨a1, a2, a3, a4, a5⟩ := hC.1.1
            exact ⟨by rw [e1 1 (by omega)]; exact a1, by rw [e1 1 (by omega)]; exact a2, by rw [e1 2 (by omega)]; exact a3, by rw [e1 3 (by omega)]; exact a4, by rw [e1 4 (by omega)]; exact a5⟩
          refine c54 hw' hch hru (ρ := nd_r D) rfl (Nat.le_succ _) (fun p hp => ?_) (fun u2 e2 hB => c50 ?_)
          · have hB := nd_B_lt hw p
            have hpw : 1 ≤ 2 ^ nd_r D := Nat.one_le_two_pow
            have hp12 := nd_pw (r := nd_r D) (by omega)
            show nw_and (u1 14 p) _ = ((nd_bs (nd_n D) _ _ (nd_r D) : Nat) : Int)
            rw [nd_aR_B, e1 14 (by omega), hC.1.2.2.2.2 p hp, show (((2 ^ nd_r D : Nat) : Int) - 1) = ((2 ^ nd_r D - 1 : Nat) : Int) from by omega, nb_and (by omega) (by omega), Nat.and_two_pow_sub_one_eq_mod, Nat.mod_eq_of_lt hB.1]
          · refine h _ ⟨?_, Or.inl ?_, Or.inl nu_at⟩ (fun k q => ?_)
            · have hu2 : nc_al (nd_aR D (nd_fs x1 x2 x3 x4 x5)) u2 := by
                obtain ⟨a1, a2, a3, a4, a5⟩ := hch
                refine ⟨⟨by rw [e2 1 (by decide) (by decide)]; exact a1, by rw [e2 1 (by decide) (by decide)]; exact a2, by rw [e2 2 (by decide) (by decide)]; exact a3, by rw [e2 3 (by decide) (by decide)]; exact a4, by rw [e2 4 (by decide) (by decide)]; exact a5⟩, ⟨by rw [e2 6 (by decide) (by decide)]; exact hru.1, fun i r hi hr => by rw [e2 (7 + i) (by omega) (by omega)]; exact hru.2 i r hi hr⟩, fun p hp => ?_, by rw [e2 13 (by decide) (by decide)]; exact hco, hB⟩
                rw [e2 5 (by decide) (by decide), e1 5 (by omega)]
                exact hC.1.2.2.1 p hp
              exact hu2.to (fun k a b => by rw [nu_ne (by omega), nu_ne (by omega)])
            · rw [nu_nj (by decide)]; exact nu_at
            · rw [nu_ne (by omega), nu_ne (by omega), e2 k (by omega) (by omega)]
              exact e1 k (by omega)
        · rw [if_neg (by omega), nu_rule, nd_iD_f (fun y => by omega)] at h
          exact h σ hC (fun _ _ => rfl)
      · rw [nd_it_f (fun y => a y.2), nu_rule, nd_iD_f (fun y => a y.2.1.2)] at h
        exact ⟨by decide, fun y => absurd rfl y, fun _ => h σ hC (fun _ _ => rfl)⟩
    · rw [nd_it_f (fun y => z2 y.1), nu_rule, nd_iD_f (fun y => z2 y.2.1.1)] at h
      exact ⟨by decide, fun _ => h σ hC (fun _ _ => rfl), fun y => absurd rfl y⟩
end NC12
