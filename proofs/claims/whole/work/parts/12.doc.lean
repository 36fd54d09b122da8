/-! the document's words, on whole numbers -/
/-- choices; candidates of each; worths (6c + k); rules; field i of rule r: 0 kind, 1 a, 2 b, 3 n, 4 weight, 5 mode -/
abbrev nd_D : Type := Nat × (Nat → Nat) × (Nat → Int) × Nat × (Nat → Nat → Int)
def nd_n (D : nd_D) : Nat := D.1
def nd_m (D : nd_D) : Nat → Nat := D.2.1
def nd_w (D : nd_D) : Nat → Int := D.2.2.1
def nd_r (D : nd_D) : Nat := D.2.2.2.1
def nd_f (D : nd_D) : Nat → Nat → Int := D.2.2.2.2
def nd_pl (m : Nat → Nat) : Nat → Nat
  | 0 => 1
  | n + 1 => nd_pl m n * m n
/-- by how much a plan's number grows from one candidate of choice c to the next -/
def nd_sp (m : Nat → Nat) : Nat → Nat → Nat
  | 0, _ => 1
  | n + 1, c => if c < n then nd_sp m n c * m n else 1
def nd_dg (m : Nat → Nat) (n p c : Nat) : Nat := p / nd_sp m n c % m c
def nd_ct (x : Nat → Nat) (a : Int) : Nat → Int
  | 0 => 0
  | c + 1 => nd_ct x a c + (if (x c : Int) = a then 1 else 0)
def nd_sm (x : Nat → Nat) : Nat → Int
  | 0 => 0
  | c + 1 => nd_sm x c + (x c : Int)
/-- a rule (its fields are g) is kept by what x takes for the n choices -/
def nd_kp (n : Nat) (x : Nat → Nat) (g : Nat → Int) : Bool :=
  if g 0 = 0 then decide (nw_and (nw_shr (g 3) (x (g 1).toNat)) 1 = 1)
  else if g 0 = 1 then decide ((x (g 1).toNat : Int) ≠ x (g 2).toNat)
  else if g 0 = 2 then decide ((x (g 1).toNat : Int) = x (g 2).toNat)
  else if g 0 = 3 then decide ((x (g 1).toNat : Int) + g 3 ≤ x (g 2).toNat)
  else if g 0 = 4 then decide ((x (g 1).toNat : Int) - x (g 2).toNat ≤ g 3 ∧ (x (g 2).toNat : Int) - x (g 1).toNat ≤ g 3)
  else if g 0 = 5 then decide ((x (g 1).toNat : Int) ≠ g 3 / 8 ∨ (x (g 2).toNat : Int) = g 3 % 8)
  else if g 0 = 6 then decide (nd_ct x (g 1) n ≤ g 3)
  else if g 0 = 7 then decide (g 3 ≤ nd_ct x (g 1) n)
  else decide (g 1 ≤ nd_sm x n ∧ nd_sm x n ≤ g 2)
/-- the rules before r that x breaks, as a set -/
def nd_bs (n : Nat) (x : Nat → Nat) (f : Nat → Nat → Int) : Nat → Nat
  | 0 => 0
  | r + 1 => nd_bs n x f r + (if nd_kp n x (fun i => f i r) then 0 else 2 ^ r)
/-- the rules before r of a mode, as a set -/
def nd_md (f : Nat → Nat → Int) (k : Int) : Nat → Nat
  | 0 => 0
  | r + 1 => nd_md f k r + (if f 5 r = k then 2 ^ r else 0)
/-- what a set costs -/
def nd_co (f : Nat → Nat → Int) (s : Nat) : Nat → Int
  | 0 => 0
  | r + 1 => nd_co f s r + (if s.testBit r then f 4 r else 0)
def nd_ws (w : Nat → Int) (x : Nat → Nat) : Nat → Int
  | 0 => 0
  | c + 1 => nd_ws w x c + w (6 * c + x c)
def nd_P (D : nd_D) : Nat := nd_pl (nd_m D) (nd_n D)
def nd_x (D : nd_D) (p : Nat) : Nat → Nat := nd_dg (nd_m D) (nd_n D) p
def nd_B (D : nd_D) (p : Nat) : Nat := nd_bs (nd_n D) (nd_x D p) (nd_f D) (nd_r D)
def nd_M (D : nd_D) (k : Int) : Nat := nd_md (nd_f D) k (nd_r D)
def nd_C (D : nd_D) (s : Nat) : Int := nd_co (nd_f D) s (nd_r D)
def nd_U (D : nd_D) (p : Nat) : Int := nd_ws (nd_w D) (nd_x D p) (nd_n D)
/-- the score of plan p, where soft is the set of soft rules -/
def nd_sc (D : nd_D) (soft p : Nat) : Int := nd_U D p - nd_C D (nd_B D p &&& soft)
/-- a rule is as said -/
def nd_ok (n : Nat) (g : Nat → Int) : Prop := (∀ i, i < 6 → nw_r (g i)) ∧ (0 ≤ g 0 ∧ g 0 ≤ 8) ∧ (g 0 ≤ 5 → 0 ≤ g 1 ∧ g 1 < n) ∧ (1 ≤ g 0 → g 0 ≤ 5 → 0 ≤ g 2 ∧ g 2 < n) ∧ (g 0 = 0 → 0 ≤ g 3 ∧ g 3 ≤ 63) ∧ (g 0 = 3 → -5 ≤ g 3 ∧ g 3 ≤ 5) ∧ (g 0 = 5 → 0 ≤ g 3 ∧ g 3 ≤ 63) ∧ (1 ≤ g 4 ∧ g 4 ≤ 1000) ∧ (0 ≤ g 5 ∧ g 5 ≤ 2)
def nd_wf (D : nd_D) : Prop := nd_n D ≤ 5 ∧ (∀ c, c < nd_n D → 1 ≤ nd_m D c ∧ nd_m D c ≤ 6) ∧ (∀ i, -1000 ≤ nd_w D i ∧ nd_w D i ≤ 1000) ∧ (∀ i, 6 * nd_n D ≤ i → nd_w D i = 0) ∧ nd_r D ≤ 12 ∧ (∀ r, r < nd_r D → nd_ok (nd_n D) (fun i => nd_f D i r))
/-! first facts -/
theorem nd_pl_le {m : Nat → Nat} : ∀ n : Nat, (∀ c, c < n → 1 ≤ m c ∧ m c ≤ 6) → 1 ≤ nd_pl m n ∧ nd_pl m n ≤ 6 ^ n
  | 0, _ => ⟨Nat.le_refl _, Nat.le_refl _⟩
  | n + 1, h => by
    obtain ⟨h1, h2⟩ := nd_pl_le n (fun c hc => h c (by omega))
    obtain ⟨h3, h4⟩ := h n (by omega)
    refine ⟨Nat.mul_le_mul h1 h3, ?_⟩
    show nd_pl m n * m n ≤ 6 ^ (n + 1)
    rw [Nat.pow_succ]
    exact Nat.mul_le_mul h2 h4
theorem nd_P_le {D : nd_D} (h : nd_wf D) : 1 ≤ nd_P D ∧ nd_P D ≤ 7776 := by
  obtain ⟨h1, h2⟩ := nd_pl_le (nd_n D) h.2.1
  refine ⟨h1, Nat.le_trans h2 ?_⟩
  exact Nat.le_trans (Nat.pow_le_pow_right (by decide) h.1) (by decide)
theorem nd_sp_pos {m : Nat → Nat} : ∀ (n c : Nat), (∀ c, c < n → 1 ≤ m c ∧ m c ≤ 6) → 1 ≤ nd_sp m n c ∧ nd_sp m n c ≤ 6 ^ n
  | 0, c, _ => ⟨Nat.le_refl _, Nat.le_refl _⟩
  | n + 1, c, h => by
    obtain ⟨h1, h2⟩ := nd_sp_pos n c (fun c hc => h c (by omega))
    obtain ⟨h3, h4⟩ := h n (by omega)
    unfold nd_sp
    split
    · refine ⟨Nat.mul_le_mul h1 h3, ?_⟩
      rw [Nat.pow_succ]
      exact Nat.mul_le_mul h2 h4
    · exact ⟨Nat.le_refl _, Nat.one_le_pow _ _ (by decide)⟩
theorem nd_sp_le {D : nd_D} (h : nd_wf D) (c : Nat) : 1 ≤ nd_sp (nd_m D) (nd_n D) c ∧ nd_sp (nd_m D) (nd_n D) c ≤ 7776 := by
  obtain ⟨h1, h2⟩ := nd_sp_pos (nd_n D) c h.2.1
  refine ⟨h1, Nat.le_trans h2 ?_⟩
  exact Nat.le_trans (Nat.pow_le_pow_right (by decide) h.1) (by decide)
theorem nd_x_lt {D : nd_D} (h : nd_wf D) {p c : Nat} (hc : c < nd_n D) : nd_x D p c < nd_m D c ∧ nd_x D p c < 6 := by
  obtain ⟨h1, h2⟩ := h.2.1 c hc
  have : nd_x D p c < nd_m D c := Nat.mod_lt _ h1
  exact ⟨this, by omega⟩
theorem nd_bs_lt (n : Nat) (x : Nat → Nat) (f : Nat → Nat → Int) : ∀ r, nd_bs n x f r < 2 ^ r
  | 0 => by simp [nd_bs]
  | r + 1 => by
    have := nd_bs_lt n x f r
    unfold nd_bs
    rw [Nat.pow_succ]
    split <;> omega
theorem nd_md_lt (f : Nat → Nat → Int) (k : Int) : ∀ r, nd_md f k r < 2 ^ r
  | 0 => by simp [nd_md]
  | r + 1 => by
    have := nd_md_lt f k r
    unfold nd_md
    rw [Nat.pow_succ]
    split <;> omega
theorem nd_pw {r : Nat} (h : r ≤ 12) : 2 ^ r ≤ 4096 := Nat.le_trans (Nat.pow_le_pow_right (by decide) h) (by decide)
theorem nd_B_lt {D : nd_D} (h : nd_wf D) (p : Nat) : nd_B D p < 2 ^ nd_r D ∧ nd_B D p < 4096 := by
  have h1 := nd_bs_lt (nd_n D) (nd_x D p) (nd_f D) (nd_r D)
  exact ⟨h1, Nat.lt_of_lt_of_le h1 (nd_pw h.2.2.2.2.1)⟩
theorem nd_M_lt {D : nd_D} (h : nd_wf D) (k : Int) : nd_M D k < 2 ^ nd_r D ∧ nd_M D k < 4096 := by
  have h1 := nd_md_lt (nd_f D) k (nd_r D)
  exact ⟨h1, Nat.lt_of_lt_of_le h1 (nd_pw h.2.2.2.2.1)⟩
theorem nd_co_le {D : nd_D} (h : nd_wf D) (s : Nat) : ∀ r, r ≤ nd_r D → 0 ≤ nd_co (nd_f D) s r ∧ nd_co (nd_f D) s r ≤ 1000 * r
  | 0, _ => by simp [nd_co]
  | r + 1, hr => by
    obtain ⟨h1, h2⟩ := nd_co_le h s r (by omega)
    have h3 := (h.2.2.2.2.2 r (by omega)).2.2.2.2.2.2.2.1
    dsimp only at h3
    unfold nd_co
    split <;> constructor <;> push_cast <;> omega
theorem nd_C_le {D : nd_D} (h : nd_wf D) (s : Nat) : 0 ≤ nd_C D s ∧ nd_C D s ≤ 12000 := by
  obtain ⟨h1, h2⟩ := nd_co_le h s (nd_r D) (Nat.le_refl _)
  have := h.2.2.2.2.1
  exact ⟨h1, by unfold nd_C; omega⟩
theorem nd_ws_le {w : Nat → Int} (hw : ∀ i, -1000 ≤ w i ∧ w i ≤ 1000) (x : Nat → Nat) : ∀ n : Nat, -1000 * (n : Int) ≤ nd_ws w x n ∧ nd_ws w x n ≤ 1000 * (n : Int)
  | 0 => by simp [nd_ws]
  | n + 1 => by
    obtain ⟨h1, h2⟩ := nd_ws_le hw x n
    have h3 := hw (6 * n + x n)
    unfold nd_ws
    constructor <;> push_cast <;> omega
theorem nd_U_le {D : nd_D} (h : nd_wf D) (p : Nat) : -5000 ≤ nd_U D p ∧ nd_U D p ≤ 5000 := by
  obtain ⟨h1, h2⟩ := nd_ws_le h.2.2.1 (nd_x D p) (nd_n D)
  have := h.1
  constructor <;> unfold nd_U <;> omega
theorem nd_sc_le {D : nd_D} (h : nd_wf D) (soft p : Nat) : -17000 ≤ nd_sc D soft p ∧ nd_sc D soft p ≤ 5000 := by
  have h1 := nd_U_le h p
  have h2 := nd_C_le h (nd_B D p &&& soft)
  constructor <;> unfold nd_sc <;> omega
/-- one bit more -/
theorem nd_or {a r : Nat} (ha : a < 2 ^ r) (hr : r < 31) : nw_or (a : Int) (nw_shl 1 (r : Int)) = ((a + 2 ^ r : Nat) : Int) := by
  have h2 : 2 ^ r < 2 ^ 31 := Nat.pow_lt_pow_right (by decide) hr
  rw [nb_shl hr, nb_or (Nat.lt_trans ha h2) h2]
  congr 1
  rw [Nat.or_comm, Nat.add_comm]
  have := Nat.two_pow_add_eq_or_of_lt ha 1
  simpa using this.symm
theorem nd_or0 {a : Nat} (ha : a < 2 ^ 31) : nw_or (a : Int) 0 = (a : Int) := by
  have := nb_or (a := a) (b := 0) ha (by decide)
  simpa using this
