section NC1
variable {G : nw_G} {σ : nw_S} {D : nd_D}
/-! the pictures: what the class's cells hold of the document D -/
def nc_ch (D : nd_D) (σ : nw_S) : Prop := σ 1 0 = nd_n D ∧ σ 1 1 = nd_P D ∧ (∀ c, c < nd_n D → σ 2 c = nd_m D c) ∧ (∀ c, c < nd_n D → σ 3 c = nd_sp (nd_m D) (nd_n D) c) ∧ (∀ i, i < 30 → σ 4 i = nd_w D i)
def nc_ru (D : nd_D) (σ : nw_S) : Prop := σ 6 0 = nd_r D ∧ ∀ i r, i < 6 → r < nd_r D → σ (7 + i) r = nd_f D i r
def nc_mo (D : nd_D) (σ : nw_S) : Prop := σ 26 0 = nd_n D ∧ σ 26 3 = nd_r D ∧ (∀ c, c < nd_n D → σ 27 c = nd_m D c) ∧ (∀ i, i < 30 → σ 28 i = nd_w D i) ∧ ∀ i r, i < 6 → r < nd_r D → σ (29 + i) r = nd_f D i r
theorem c1 {Φ : Int → nw_S → Prop} {x1 : Int} (hr : nw_r x1) (h2 : nw_r (σ 1 0)) (ht : 0 ≤ x1 → x1 < σ 1 0 → Φ 1 σ) (hf : x1 < 0 ∨ σ 1 0 ≤ x1 → Φ 0 σ) : nw_TI G 1 [.inl 1, .inr x1] σ Φ :=
  nw_TI_of (by decide) (Nat.le_of_ble_eq_true rfl) (bk1_0 ⟨hr, fun q => hf (Or.inl q), fun q => ⟨h2, fun q2 => hf (Or.inr q2), fun q2 => ht q q2⟩⟩)
theorem c2 {Φ : Int → nw_S → Prop} (hw : nd_wf D) (hC : nc_ch D σ) {x1 x2 : Int} (h1 : nw_r x1) (h2 : nw_r x2) (ht : ∀ c k : Nat, x1 = c → x2 = k → c < nd_n D → k < nd_m D c → Φ 1 σ) (hf : (∀ c k : Nat, x1 = c → x2 = k → c < nd_n D → ¬ k < nd_m D c) → Φ 0 σ) : nw_TI G 2 [.inl 1, .inr x1, .inr x2] σ Φ := by
  have hn := hw.1
  have e := hC.1
  refine nw_TI_of (by decide) (Nat.le_of_ble_eq_true rfl) (bk2_0 (c1 h1 (by omega) (fun a b => ?_) (fun a => ?_)))
  · refine ⟨by decide, fun q => absurd q (by decide), fun _ => ⟨h2, fun q => hf (fun c k _ hk => by omega), fun q => ?_⟩⟩
    have hcn : x1.toNat < nd_n D := by omega
    have hm := hw.2.1 _ hcn
    have em := hC.2.2.1 _ hcn
    refine ⟨by omega, by omega, fun q2 => hf (fun c k hc hk hcn2 => ?_), fun q2 => ht x1.toNat x2.toNat (by omega) (by omega) hcn (by omega)⟩
    have : x1.toNat = c := by omega
    rw [this] at em q2
    omega
  · exact ⟨by decide, fun _ => hf (fun c k hc hk hcn => by omega), fun q => absurd rfl q⟩
theorem c5 {Φ : Int → nw_S → Prop} (hw : nd_wf D) (hC : nc_ch D σ) {x1 x2 : Int} {p c : Nat} (h1 : x1 = p) (h2 : x2 = c) (hp : p < 7776) (hc : c < nd_n D) (h : Φ (nd_x D p c) σ) : nw_TI G 5 [.inl 1, .inr x1, .inr x2] σ Φ := by
  subst h1
  subst h2
  have hn := hw.1
  have hm := hw.2.1 c hc
  have hs := nd_sp_le hw c
  have em := hC.2.2.1 c hc
  have es := hC.2.2.2.1 c hc
  refine nw_TI_of (by decide) (Nat.le_of_ble_eq_true rfl) (bk5_0 ?_)
  simp only [Int.toNat_natCast]
  rw [em, es]
  refine ⟨by omega, by omega, fun q => by omega, fun _ => ⟨by omega, fun _ => ⟨by omega, ?_, ?_⟩, fun q => by omega⟩⟩
  · have : ((p : Int) / (nd_sp (nd_m D) (nd_n D) c : Int)) = ((p / nd_sp (nd_m D) (nd_n D) c : Nat) : Int) := by norm_cast
    rw [this]
    have := Nat.div_le_self p (nd_sp (nd_m D) (nd_n D) c)
    generalize p / nd_sp (nd_m D) (nd_n D) c = q at this ⊢
    omega
  · have : ((p : Int) / (nd_sp (nd_m D) (nd_n D) c : Int)) % (nd_m D c : Int) = ((p / nd_sp (nd_m D) (nd_n D) c % nd_m D c : Nat) : Int) := by norm_cast
    rw [this]
    exact h
theorem c13 {Φ : Int → nw_S → Prop} {x1 : Int} (hr : nw_r x1) (h2 : nw_r (σ 6 0)) (ht : 0 ≤ x1 → x1 < σ 6 0 → Φ 1 σ) (hf : x1 < 0 ∨ σ 6 0 ≤ x1 → Φ 0 σ) : nw_TI G 13 [.inl 6, .inr x1] σ Φ :=
  nw_TI_of (by decide) (Nat.le_of_ble_eq_true rfl) (bk13_0 ⟨hr, fun q => hf (Or.inl q), fun q => ⟨h2, fun q2 => hf (Or.inr q2), fun q2 => ht q q2⟩⟩)
theorem c14 {Φ : Int → nw_S → Prop} {r : Nat} (e : σ 6 0 = r) (hr : r < 31) (h : Φ ((2 ^ r : Nat) : Int) σ) : nw_TI G 14 [.inl 6] σ Φ := by
  refine nw_TI_of (by decide) (Nat.le_of_ble_eq_true rfl) (bk14_0 ?_)
  rw [e, nb_shl hr]
  exact h
theorem l17 {Φ : Int → nw_S → Prop} (hw : nd_wf D) (hC : nc_ru D σ) {x1 : Int} (hr : nw_r x1) (h : Φ (nd_M D x1) σ) : ∀ (k i : Nat) (x2 x3 : Int), i + k = nd_r D → x3 = i → x2 = (nd_md (nd_f D) x1 i : Nat) → nw_V G 17 (nw_pi Φ) 4 [some (.inl 6), some (.inr x1), some (.inr x2), some (.inr x3)] [] σ := by
  have hR := hw.2.2.2.2.1
  have e := hC.1
  intro k
  induction k with
  | zero =>
    intro i x2 x3 hi h3 h2
    subst h3
    subst h2
    refine bk17_4 ⟨by omega, by omega, fun _ => ?_, fun q => by omega⟩
    rw [show i = nd_r D from by omega]
    exact h
  | succ k ih =>
    intro i x2 x3 hi h3 h2
    subst h3
    subst h2
    have ef := hC.2 5 i (by omega) (by omega)
    have ok := (hw.2.2.2.2.2 i (by omega)).1 5 (by omega)
    dsimp only at ok
    have hlt := nd_md_lt (nd_f D) x1 i
    refine bk17_4 ⟨by omega, by omega, fun q => by omega, fun _ => ⟨by omega, ?_⟩⟩
    simp only [Int.toNat_natCast]
    rw [ef]
    refine ⟨ok, hr, fun q => ih (i + 1) _ _ (by omega) (by omega) ?_, fun q => ih (i + 1) _ _ (by omega) (by omega) ?_⟩
    · simp [nd_md, q]
    · rw [nd_or hlt (by omega)]
      simp [nd_md, q]
theorem c17 {Φ : Int → nw_S → Prop} (hw : nd_wf D) (hC : nc_ru D σ) {x1 : Int} (hr : nw_r x1) (h : Φ (nd_M D x1) σ) : nw_TI G 17 [.inl 6, .inr x1] σ Φ :=
  nw_TI_of (by decide) (Nat.le_of_ble_eq_true rfl) (bk17_0 (l17 hw hC hr h (nd_r D) 0 _ _ (by omega) rfl rfl))
theorem l82 {Φ : Int → nw_S → Prop} (hw : nd_wf D) (hC : nc_mo D σ) {x1 : Int} (hr : nw_r x1) (h : Φ (nd_M D x1) σ) : ∀ (k i : Nat) (x2 x3 : Int), i + k = nd_r D → x3 = i → x2 = (nd_md (nd_f D) x1 i : Nat) → nw_V G 82 (nw_pi Φ) 4 [some (.inl 26), some (.inr x1), some (.inr x2), some (.inr x3)] [] σ := by
  have hR := hw.2.2.2.2.1
  have e := hC.2.1
  intro k
  induction k with
  | zero =>
    intro i x2 x3 hi h3 h2
    subst h3
    subst h2
    refine bk82_4 ⟨by omega, by omega, fun _ => ?_, fun q => by omega⟩
    rw [show i = nd_r D from by omega]
    exact h
  | succ k ih =>
    intro i x2 x3 hi h3 h2
    subst h3
    subst h2
    have ef := hC.2.2.2.2 5 i (by omega) (by omega)
    have ok := (hw.2.2.2.2.2 i (by omega)).1 5 (by omega)
    dsimp only at ok
    have hlt := nd_md_lt (nd_f D) x1 i
    have hp2 := nd_pw (r := i) (by omega)
    refine bk82_4 ⟨by omega, by omega, fun q => by omega, fun _ => ⟨by omega, ?_⟩⟩
    simp only [Int.toNat_natCast]
    rw [ef]
    refine ⟨ok, hr, fun q => ih (i + 1) _ _ (by omega) (by omega) ?_, fun q => ih (i + 1) _ _ (by omega) (by omega) ?_⟩
    · rw [nd_or0 (by omega)]
      simp [nd_md, q]
    · rw [nd_or hlt (by omega)]
      simp [nd_md, q]
theorem c82 {Φ : Int → nw_S → Prop} (hw : nd_wf D) (hC : nc_mo D σ) {x1 : Int} (hr : nw_r x1) (h : Φ (nd_M D x1) σ) : nw_TI G 82 [.inl 26, .inr x1] σ Φ :=
  nw_TI_of (by decide) (Nat.le_of_ble_eq_true rfl) (bk82_0 (l82 hw hC hr h (nd_r D) 0 _ _ (by omega) rfl rfl))
end NC1
