/-! THE MACHINE OVER ONE FIXED WORLD: 38 cells that never come or go; what they hold is a table of whole numbers. -/
abbrev nw_v : Type := Nat ⊕ Int
abbrev nw_S : Type := Nat → Nat → Int
abbrev nw_L : Type := List (Option nw_v)
abbrev nw_G : Type := Launch × va_G × (Nat → Nat) × (Nat → ClassId) × Nat × (Nat → Int32)
def nw_ad (G : nw_G) : Nat → Nat := G.2.2.1
def nw_ta (G : nw_G) : Nat → ClassId := G.2.2.2.1
def nw_len (G : nw_G) : Nat := G.2.2.2.2.1
def nw_xs (G : nw_G) : Nat → Int32 := G.2.2.2.2.2
def nw_m (μ : Nat) : nw_MT := nw_mTab.getD μ (yX0_init, cX0_init, 0, none, 0, false, 0, 0)
def nw_Y (μ : Nat) : MethodName := (nw_m μ).1
def nw_B (μ : Nat) : ByteArray := (nw_m μ).2.1
def nw_mL (μ : Nat) : Nat := (nw_m μ).2.2.1
def nw_Rt (μ : Nat) : Option FieldType := (nw_m μ).2.2.2.1
def nw_N (μ : Nat) : Nat := (nw_m μ).2.2.2.2.1
def nw_St (μ : Nat) : Bool := (nw_m μ).2.2.2.2.2.1
def nw_C (μ : Nat) : Nat := (nw_m μ).2.2.2.2.2.2.1
def nw_Lv (μ : Nat) : Nat := (nw_m μ).2.2.2.2.2.2.2
def nw_own (i : Nat) : String := nw_Own.getD i ""
def nw_rm (μ : Nat) : Room := { frames := nw_Lv μ, cells := 0, slots := 0, locals := 34 * nw_Lv μ }
def nw_tb : List Cond := lw_tbl.filter goodWord
def nw_W (μ : Nat) : List Cond := .code (nw_Y μ) (nw_B μ) (nw_mL μ) (nw_Rt μ) :: nw_tb
def nw_ty (z : Bool) : FieldType := if z then .boolean else .int
def nw_e (G : nw_G) (σ : nw_S) (k : Nat) : nw_sh → va_E
  | .inl (n, _) => .inl (nw_ta G k, n, .inl (fun j => Int32.ofInt (σ k j)))
  | .inr (ci, fs) => .inr (ci, fs.mapIdx (fun j f => if f < 2 then .int (Int32.ofInt (σ k j)) else .ref (nw_ad G (f - 2))))
def nw_w (G : nw_G) (σ : nw_S) : va_W := nw_shp.mapIdx (fun k sh => (nw_ad G k, nw_e G σ k sh))
def nw_A (G : nw_G) : Nat → Prop := fun q => ∃ k, k < 38 ∧ q = nw_ad G k
def nw_I (G : nw_G) : Prop := ∀ i j, i < 38 → j < 38 → nw_ad G i = nw_ad G j → i = j
def nw_K (G : nw_G) (U : State) : Prop := va_K G.2.1 vwCl [] U ∧ ∀ (k n : Nat) (z : Bool), nw_shp[k]? = some (.inl (n, z)) → ArrOfT U (nw_ta G k) (nw_ty z) ∧ va_RA U (nw_ta G k) (nw_ty z)
def nw_P (G : nw_G) (σ : nw_S) (H : Heap) : Prop := va_P G.2.1 vwCl (nw_w G σ) H
def nw_cv (G : nw_G) : nw_v → Value
  | .inl k => .ref (nw_ad G k)
  | .inr i => .int (Int32.ofInt i)
def nw_lh (G : nw_G) (n : Nat) (la : Array Slot) (ls : nw_L) : Prop := la.size = n ∧ lv_wf la ∧ ∀ (i : Nat) (v : nw_v), ls[i]? = some (some v) → la[i]? = some (.val (nw_cv G v))
def nw_up (σ : nw_S) (k j : Nat) (v : Int) : nw_S := fun a b => if a = k ∧ b = j then v else σ a b
abbrev nw_r (x : Int) : Prop := -2147483648 ≤ x ∧ x < 2147483648
theorem nw_K.moved {G : nw_G} {u U : State} (hvm : u.vm.Alike U.vm) (h : nw_K G u) : nw_K G U := ⟨va_K.moved hvm h.1, fun k n z hk => ⟨arrOfT_moved hvm (h.2 k n z hk).1, (h.2 k n z hk).2.moved hvm⟩⟩
theorem nw_K.arr {G : nw_G} {U : State} {k n : Nat} {z : Bool} (h : nw_K G U) (hk : nw_shp[k]? = some (.inl (n, z))) : va_K G.2.1 vwCl [(nw_ta G k, nw_ty z)] U := by
  refine ⟨h.1.1, fun i q hi => ?_⟩
  match i, hi with
  | 0, hi => cases hi; exact h.2 k n z hk
  | i + 1, hi => simp at hi
theorem nw_w_at {G : nw_G} {σ : nw_S} {k : Nat} {sh : nw_sh} (h : nw_shp[k]? = some sh) : (nw_w G σ)[k]? = some (nw_ad G k, nw_e G σ k sh) := by
  simp [nw_w, List.getElem?_mapIdx, h]
theorem nw_shp_len : nw_shp.length = 38 := rfl
theorem nw_w_len {G : nw_G} {σ : nw_S} : (nw_w G σ).length = 38 := by simp [nw_w, nw_shp_len]
theorem nw_w_D {G : nw_G} {σ : nw_S} {A : Nat → Prop} (hI : nw_I G) (hA : ∀ k, k < 38 → A (nw_ad G k)) : va_D A (nw_w G σ) := by
  have key : ∀ (k : Nat) (q : Nat × va_E), (nw_w G σ)[k]? = some q → k < 38 ∧ q.1 = nw_ad G k := by
    intro k q h
    have hk : k < 38 := by rw [← nw_w_len (G := G) (σ := σ)]; exact (List.getElem?_eq_some_iff.mp h).1
    refine ⟨hk, ?_⟩
    have h2 : nw_shp[k]? = some nw_shp[k] := List.getElem?_eq_getElem (by rw [nw_shp_len]; exact hk)
    rw [nw_w_at h2] at h
    cases h
    rfl
  refine ⟨fun i j x y hi hj hxy => ?_, fun k q hk => ?_⟩
  · obtain ⟨a1, a2⟩ := key i x hi
    obtain ⟨b1, b2⟩ := key j y hj
    exact hI i j a1 b1 (by rw [← a2, ← b2]; exact hxy)
  · obtain ⟨a1, a2⟩ := key k q hk
    rw [a2]; exact hA k a1
theorem nw_w_set {G : nw_G} {σ : nw_S} {k j : Nat} {v : Int} {sh : nw_sh} (hk : nw_shp[k]? = some sh) : nw_w G (nw_up σ k j v) = (nw_w G σ).set k (nw_ad G k, nw_e G (nw_up σ k j v) k sh) := by
  apply List.ext_getElem?
  intro i
  have hlt : k < (nw_w G σ).length := by rw [nw_w_len]; have := (List.getElem?_eq_some_iff.mp hk).1; rwa [nw_shp_len] at this
  by_cases hi : i = k
  · subst hi
    rw [nw_w_at hk, List.getElem?_set_self hlt]
  · rw [List.getElem?_set_ne (Ne.symm hi)]
    cases hs : nw_shp[i]? with
    | none => simp [nw_w, List.getElem?_mapIdx, hs]
    | some s2 =>
      rw [nw_w_at hs, nw_w_at hs]
      have : nw_e G (nw_up σ k j v) i s2 = nw_e G σ i s2 := by
        have h0 : ∀ b, nw_up σ k j v i b = σ i b := fun b => by simp [nw_up, hi]
        unfold nw_e
        split <;> simp [h0]
      rw [this]
theorem nw_e_arr {G : nw_G} {σ : nw_S} {k j n : Nat} {z : Bool} {v : Int} : nw_e G (nw_up σ k j v) k (.inl (n, z)) = .inl (nw_ta G k, n, .inl (upd (fun j => Int32.ofInt (σ k j)) j (Int32.ofInt v))) := by
  show (Sum.inl (nw_ta G k, n, Sum.inl (fun b => Int32.ofInt (nw_up σ k j v k b))) : va_E) = _
  have : (fun b => Int32.ofInt (nw_up σ k j v k b)) = upd (fun j => Int32.ofInt (σ k j)) j (Int32.ofInt v) := by
    funext b
    by_cases hb : b = j <;> simp [nw_up, upd, hb]
  rw [this]
theorem nw_e_fld {G : nw_G} {σ : nw_S} {k j ci : Nat} {fs : List Nat} {v : Int} {f : Nat} (hf : fs[j]? = some f) (h2 : f < 2) : nw_e G (nw_up σ k j v) k (.inr (ci, fs)) = .inr (ci, (fs.mapIdx (fun j f => if f < 2 then Value.int (Int32.ofInt (σ k j)) else .ref (nw_ad G (f - 2)))).set j (.int (Int32.ofInt v))) := by
  show (Sum.inr (ci, fs.mapIdx (fun b f => if f < 2 then Value.int (Int32.ofInt (nw_up σ k j v k b)) else .ref (nw_ad G (f - 2)))) : va_E) = _
  congr 2
  apply List.ext_getElem?
  intro i
  by_cases hi : i = j
  · subst hi
    rw [List.getElem?_set_self (by simpa using (List.getElem?_eq_some_iff.mp hf).1)]
    simp [List.getElem?_mapIdx, hf, h2, nw_up]
  · rw [List.getElem?_set_ne (Ne.symm hi)]
    simp [List.getElem?_mapIdx, nw_up, hi]
/-! locals -/
def nw_lv (G : nw_G) (ls : nw_L) : List (Nat × Value) := (ls.zipIdx).filterMap (fun q => q.1.map (fun v => (q.2, nw_cv G v)))
theorem nw_cat (G : nw_G) (v : nw_v) : (nw_cv G v).category = 1 := by
  cases v <;> rfl
theorem nw_lv_mem {G : nw_G} {ls : nw_L} {q : Nat × Value} : q ∈ nw_lv G ls ↔ ∃ (i : Nat) (v : nw_v), ls[i]? = some (some v) ∧ q = (i, nw_cv G v) := by
  unfold nw_lv
  rw [List.mem_filterMap]
  constructor
  · rintro ⟨⟨a, i⟩, h1, h2⟩
    have h3 := List.mem_zipIdx_iff_getElem?.mp h1
    cases a with
    | none => simp at h2
    | some v => exact ⟨i, v, h3, by simpa using h2.symm⟩
  · rintro ⟨i, v, h1, rfl⟩
    exact ⟨(some v, i), List.mem_zipIdx_iff_getElem?.mpr h1, rfl⟩
theorem nw_lh.has {G : nw_G} {n : Nat} {la : Array Slot} {ls : nw_L} (h : nw_lh G n la ls) : lv_has la n (nw_lv G ls) := by
  refine ⟨h.1, h.2.1, fun q hq => ?_⟩
  obtain ⟨i, v, h1, rfl⟩ := nw_lv_mem.mp hq
  exact h.2.2 i v h1
theorem nw_lh.store {G : nw_G} {n : Nat} {la : Array Slot} {ls : nw_L} {i : Nat} {v : nw_v} (h : lv_has la n ((i, nw_cv G v) :: (nw_lv G ls).filter (fun q => !(q.1 == i) && !(q.1 + 1 == i && q.2.category == 2)))) : nw_lh G n la (ls.set i (some v)) := by
  refine ⟨h.1, h.2.1, fun j w hj => ?_⟩
  by_cases hij : j = i
  · subst hij
    have hlt : j < ls.length := by
      rcases Nat.lt_or_ge j ls.length with q | q
      · exact q
      · rw [List.getElem?_eq_none (by simpa using q)] at hj; cases hj
    rw [List.getElem?_set_self hlt] at hj
    cases hj
    exact h.2.2 (j, nw_cv G v) List.mem_cons_self
  · rw [List.getElem?_set_ne (Ne.symm hij)] at hj
    refine h.2.2 (j, nw_cv G w) (List.mem_cons_of_mem _ (List.mem_filter.mpr ⟨nw_lv_mem.mpr ⟨j, w, hj, rfl⟩, ?_⟩))
    simp [hij, nw_cat]
/-! numbers -/
def nw_and (a b : Int) : Int := (Int32.ofInt a &&& Int32.ofInt b).toInt
def nw_or (a b : Int) : Int := (Int32.ofInt a ||| Int32.ofInt b).toInt
def nw_xor (a b : Int) : Int := (Int32.ofInt a ^^^ Int32.ofInt b).toInt
def nw_shl (a b : Int) : Int := (Int32.ofInt a <<< (Int32.ofInt b &&& 31)).toInt
def nw_shr (a b : Int) : Int := (Int32.ofInt a >>> (Int32.ofInt b &&& 31)).toInt
def nw_ushr (a b : Int) : Int := ((Int32.ofInt a).toUInt32 >>> ((Int32.ofInt b).toUInt32 &&& Int32.toUInt32 31)).toInt32.toInt
theorem nw_toInt {a : Int} (h : nw_r a) : (Int32.ofInt a).toInt = a := Int32.toInt_ofInt_of_le (by have := h.1; omega) (by have := h.2; omega)
theorem nw_of_lt {a b : Int} (ha : nw_r a) (hb : nw_r b) : Int32.ofInt a < Int32.ofInt b ↔ a < b := by rw [Int32.lt_iff_toInt_lt, nw_toInt ha, nw_toInt hb]
theorem nw_of_le {a b : Int} (ha : nw_r a) (hb : nw_r b) : Int32.ofInt a ≤ Int32.ofInt b ↔ a ≤ b := by rw [Int32.le_iff_toInt_le, nw_toInt ha, nw_toInt hb]
theorem nw_of_eq {a b : Int} (ha : nw_r a) (hb : nw_r b) : Int32.ofInt a = Int32.ofInt b ↔ a = b := by rw [← Int32.toInt_inj, nw_toInt ha, nw_toInt hb]
theorem nw_vpin {i : Int} {n : Nat} (h : 0 ≤ i ∧ i < (n : Int)) (hn : n < 2147483648) : vp_in (Int32.ofInt i) n ∧ (Int32.ofInt i).toNatClampNeg = i.toNat := by
  have hr : nw_r i := ⟨by omega, by omega⟩
  refine ⟨vp_in_iff.mpr ?_, ?_⟩
  · rw [nw_toInt hr]; exact h
  · show (Int32.ofInt i).toInt.toNat = i.toNat
    rw [nw_toInt hr]
theorem nw_div {a b : Int} (h : 0 ≤ a ∧ a < 2147483648 ∧ 0 < b ∧ b < 2147483648) : Int32.ofInt a / Int32.ofInt b = Int32.ofInt (a / b) ∧ ¬ Int32.ofInt b = 0 := by
  obtain ⟨h1, h2, h3, h4⟩ := h
  have ra : nw_r a := ⟨by omega, by omega⟩
  have rb : nw_r b := ⟨by omega, by omega⟩
  have hd0 : 0 ≤ a / b := Int.ediv_nonneg h1 (by omega)
  have hd1 : a / b ≤ a := Int.ediv_le_self b h1
  have hb0 : ¬ Int32.ofInt b = 0 := by
    intro q
    have := congrArg Int32.toInt q
    rw [nw_toInt rb, Int32.toInt_zero] at this
    omega
  refine ⟨?_, hb0⟩
  have hb1 : Int32.ofInt b ≠ -1 := by
    intro q
    have := congrArg Int32.toInt q
    rw [nw_toInt rb] at this
    have h9 : (-1 : Int32).toInt = -1 := by decide
    rw [h9] at this
    omega
  rw [← Int32.toInt_inj, Int32.toInt_div_of_ne_right _ _ hb1, nw_toInt ra, nw_toInt rb, nw_toInt ⟨by omega, by omega⟩, Int.tdiv_eq_ediv_of_nonneg h1]
theorem nw_rem {a b : Int} (h : 0 ≤ a ∧ a < 2147483648 ∧ 0 < b ∧ b < 2147483648) : Int32.ofInt a - Int32.ofInt a / Int32.ofInt b * Int32.ofInt b = Int32.ofInt (a % b) := by
  rw [(nw_div h).1, ← Int32.ofInt_mul, ← Int32.ofInt_sub]
  rw [Int.emod_def, Int.mul_comm b]
/-! one step -/
def nw_pI (st : List nw_v) (f : Int → List nw_v → Prop) : Prop := match st with
  | .inr a :: r => f a r
  | _ => False
def nw_pR (st : List nw_v) (f : Nat → List nw_v → Prop) : Prop := match st with
  | .inl a :: r => f a r
  | _ => False
def nw_lI (ls : nw_L) (j : Nat) (f : Int → Prop) : Prop := match ls[j]? with
  | some (some (.inr a)) => f a
  | _ => False
def nw_lR (ls : nw_L) (j : Nat) (f : Nat → Prop) : Prop := match ls[j]? with
  | some (some (.inl a)) => f a
  | _ => False
def nw_oS {α : Type} (x : Option α) (f : α → Prop) : Prop := match x with
  | some a => f a
  | none => False
def nw_sA (q : Nat) (f : Nat → Bool → Prop) : Prop := match nw_shp[q]? with
  | some (.inl (n, z)) => f n z
  | _ => False
def nw_sO (q : Nat) (f : Nat → List Nat → Prop) : Prop := match nw_shp[q]? with
  | some (.inr (ci, fs)) => f ci fs
  | _ => False
def nw_if (b : Bool) (f : Prop) : Prop := match b with
  | true => f
  | false => False
theorem nw_pI_el {st : List nw_v} {f : Int → List nw_v → Prop} (h : nw_pI st f) : ∃ a r, st = .inr a :: r ∧ f a r := by
  unfold nw_pI at h
  split at h
  · exact ⟨_, _, rfl, h⟩
  · exact h.elim
theorem nw_pR_el {st : List nw_v} {f : Nat → List nw_v → Prop} (h : nw_pR st f) : ∃ a r, st = .inl a :: r ∧ f a r := by
  unfold nw_pR at h
  split at h
  · exact ⟨_, _, rfl, h⟩
  · exact h.elim
theorem nw_lI_el {ls : nw_L} {j : Nat} {f : Int → Prop} (h : nw_lI ls j f) : ∃ a, ls[j]? = some (some (.inr a)) ∧ f a := by
  unfold nw_lI at h
  split at h
  · rename_i a hq; exact ⟨a, hq, h⟩
  · exact h.elim
theorem nw_lR_el {ls : nw_L} {j : Nat} {f : Nat → Prop} (h : nw_lR ls j f) : ∃ a, ls[j]? = some (some (.inl a)) ∧ f a := by
  unfold nw_lR at h
  split at h
  · rename_i a hq; exact ⟨a, hq, h⟩
  · exact h.elim
theorem nw_oS_el {α : Type} {x : Option α} {f : α → Prop} (h : nw_oS x f) : ∃ a, x = some a ∧ f a := by
  cases x with
  | none => exact h.elim
  | some a => exact ⟨a, rfl, h⟩
theorem nw_sA_el {q : Nat} {f : Nat → Bool → Prop} (h : nw_sA q f) : ∃ n z, nw_shp[q]? = some (.inl (n, z)) ∧ f n z := by
  unfold nw_sA at h
  split at h
  · rename_i n z hq; exact ⟨n, z, hq, h⟩
  · exact h.elim
theorem nw_sO_el {q : Nat} {f : Nat → List Nat → Prop} (h : nw_sO q f) : ∃ ci fs, nw_shp[q]? = some (.inr (ci, fs)) ∧ f ci fs := by
  unfold nw_sO at h
  split at h
  · rename_i n z hq; exact ⟨n, z, hq, h⟩
  · exact h.elim
theorem nw_if_el {b : Bool} {f : Prop} (h : nw_if b f) : b = true ∧ f := by
  cases b with
  | true => exact ⟨rfl, h⟩
  | false => exact h.elim
def nw_tg (pc : Nat) (o : Int) : Nat := ((pc : Int) + o).toNat
def nw_br (c : ClassFile.Cond) (a b : Int) (T F : Prop) : Prop := match c with
  | .eq => (a = b → T) ∧ (a ≠ b → F)
  | .ne => (a ≠ b → T) ∧ (a = b → F)
  | .lt => (a < b → T) ∧ (b ≤ a → F)
  | .ge => (b ≤ a → T) ∧ (a < b → F)
  | .gt => (b < a → T) ∧ (a ≤ b → F)
  | .le => (a ≤ b → T) ∧ (b < a → F)
def nw_sw (a : Int) (k : Nat → Prop) (pc : Nat) : Int → List Int → Prop
  | _, [] => True
  | lo, o :: r => (a = lo → k (nw_tg pc o)) ∧ nw_sw a k pc (lo + 1) r
def nw_fl (μ idx : Nat) : Option (Nat × Nat × Nat) := (nw_fTab.getD (nw_C μ) []).lookup idx
def nw_cl (μ idx : Nat) : Option Nat := (nw_cTab.getD (nw_C μ) []).lookup idx
def nw_ko (μ idx : Nat) : Option Int := (nw_kTab.getD (nw_C μ) []).lookup idx
def nw_rOK (ret : Option FieldType) (r : Option Int) : Prop := match ret, r with
  | none, none => True
  | some .int, some _ => True
  | some .boolean, some v => v = 0 ∨ v = 1
  | _, _ => False
/-- the end of a method: an answer or none, and the world -/
def nw_mQ (G : nw_G) (ν : Nat) (Ψ : Option Int → nw_S → Prop) : Array Value → State → Outcome → State → Prop := match nw_Rt ν with
  | none => va_Qv (S := nw_S) (fun u => Ψ none u) (fun u t => nw_P G u t.heap ∧ nw_K G t) (nw_A G)
  | some _ => va_Qi (S := Int × nw_S) (fun r u => r = Int32.ofInt u.1 ∧ Ψ (some u.1) u.2) (fun u t => nw_P G u.2 t.heap ∧ nw_K G t) (nw_A G)
/-- method ν, called with these in this world, comes back, and what it answers and leaves is so -/
def nw_Tm (G : nw_G) (ν : Nat) (args : List nw_v) (σ : nw_S) (Φ : Option Int → nw_S → Prop) : Prop :=
  ∃ Ψ : Option Int → nw_S → Prop, (∀ r u, Ψ r u → Φ r u) ∧ Met G.1 (nw_Y ν) (nw_W ν) (nw_rm ν) (va_Pc (args.map (nw_cv G)) (fun U => nw_P G σ U.heap ∧ nw_K G U ∧ nw_I G)) (nw_mQ G ν Ψ) 0 0 (nw_A G)
theorem nw_Tm.mono {G : nw_G} {ν : Nat} {args : List nw_v} {σ : nw_S} {Φ Φ' : Option Int → nw_S → Prop} (h : nw_Tm G ν args σ Φ) (hi : ∀ r u, Φ r u → Φ' r u) : nw_Tm G ν args σ Φ' := by
  obtain ⟨Ψ, h1, h2⟩ := h
  exact ⟨Ψ, fun r u q => hi r u (h1 r u q), h2⟩
def nw_pi (Φ : Int → nw_S → Prop) : Option Int → nw_S → Prop
  | some v, u => Φ v u
  | none, _ => False
def nw_pv (Φ : nw_S → Prop) : Option Int → nw_S → Prop
  | none, u => Φ u
  | some _, _ => False
/-- a call that answers; one that doesn't -/
def nw_TI (G : nw_G) (ν : Nat) (args : List nw_v) (σ : nw_S) (Φ : Int → nw_S → Prop) : Prop := nw_Tm G ν args σ (nw_pi Φ)
def nw_TV (G : nw_G) (ν : Nat) (args : List nw_v) (σ : nw_S) (Φ : nw_S → Prop) : Prop := nw_Tm G ν args σ (nw_pv Φ)
theorem nw_TI.mono {G : nw_G} {ν : Nat} {args : List nw_v} {σ : nw_S} {Φ Φ' : Int → nw_S → Prop} (h : nw_TI G ν args σ Φ) (hi : ∀ r u, Φ r u → Φ' r u) : nw_TI G ν args σ Φ' := nw_Tm.mono h (fun r u q => match r, q with
  | some v, q => hi v u q
  | none, q => q)
theorem nw_TV.mono {G : nw_G} {ν : Nat} {args : List nw_v} {σ : nw_S} {Φ Φ' : nw_S → Prop} (h : nw_TV G ν args σ Φ) (hi : ∀ u, Φ u → Φ' u) : nw_TV G ν args σ Φ' := nw_Tm.mono h (fun r u q => match r, q with
  | some _, q => q
  | none, q => hi u q)
def nw_Tr (G : nw_G) (ν : Nat) (args : List nw_v) (σ : nw_S) (f : Option Int → nw_S → Prop) : Prop := match nw_Rt ν with
  | none => nw_TV G ν args σ (fun u => f none u)
  | some _ => nw_TI G ν args σ (fun v u => f (some v) u)
theorem nw_Tr_el {G : nw_G} {ν : Nat} {args : List nw_v} {σ : nw_S} {f : Option Int → nw_S → Prop} (h : nw_Tr G ν args σ f) : nw_Tm G ν args σ f := by
  unfold nw_Tr at h
  split at h
  · exact nw_Tm.mono h (fun r u q => match r, q with
      | some _, q => q.elim
      | none, q => q)
  · exact nw_Tm.mono h (fun r u q => match r, q with
      | some _, q => q
      | none, q => q.elim)
/-- a call: the last parameters lie on top -/
def nw_ca (st : List nw_v) (n : Nat) (f : List nw_v → List nw_v → Prop) : Prop := nw_if (Nat.ble n st.length && Nat.ble (st.drop n).length 8) (f (st.take n).reverse (st.drop n))
def nw_ro (r : Option Int) (st : List nw_v) : List nw_v := match r with
  | some v => .inr v :: st
  | none => st
def nw_step (G : nw_G) (μ : Nat) (Ψ : Option Int → nw_S → Prop) (i : Instr) (pc : Nat) (ls : nw_L) (st : List nw_v) (σ : nw_S) (k : Nat → nw_L → List nw_v → nw_S → Prop) : Prop := match i with
  | .iconst n => k (pc + 1) ls (.inr n :: st) σ
  | .bipush n => nw_if (decide (-128 ≤ n) && decide (n < 128)) (k (pc + 2) ls (.inr n :: st) σ)
  | .sipush n => nw_if (decide (-32768 ≤ n) && decide (n < 32768)) (k (pc + 3) ls (.inr n :: st) σ)
  | .ldc idx => nw_oS (nw_ko μ idx) fun n => k (pc + 2) ls (.inr n :: st) σ
  | .ldc_w idx => nw_oS (nw_ko μ idx) fun n => k (pc + 3) ls (.inr n :: st) σ
  | .iload_n j => nw_lI ls j.val fun a => k (pc + 1) ls (.inr a :: st) σ
  | .iload j => nw_lI ls j fun a => k (pc + 2) ls (.inr a :: st) σ
  | .aload_n j => nw_lR ls j.val fun a => k (pc + 1) ls (.inl a :: st) σ
  | .aload j => nw_lR ls j fun a => k (pc + 2) ls (.inl a :: st) σ
  | .istore_n j => nw_if (Nat.ble (j.val + 1) (nw_mL μ)) (nw_pI st fun a st => k (pc + 1) (ls.set j.val (some (.inr a))) st σ)
  | .istore j => nw_if (Nat.ble (j + 1) (nw_mL μ)) (nw_pI st fun a st => k (pc + 2) (ls.set j (some (.inr a))) st σ)
  | .astore_n j => nw_if (Nat.ble (j.val + 1) (nw_mL μ)) (nw_pR st fun a st => k (pc + 1) (ls.set j.val (some (.inl a))) st σ)
  | .astore j => nw_if (Nat.ble (j + 1) (nw_mL μ)) (nw_pR st fun a st => k (pc + 2) (ls.set j (some (.inl a))) st σ)
  | .iinc j n => nw_if (Nat.ble (j + 1) (nw_mL μ)) (nw_lI ls j fun a => k (pc + 3) (ls.set j (some (.inr (a + n)))) st σ)
  | .iadd => nw_pI st fun b st => nw_pI st fun a st => k (pc + 1) ls (.inr (a + b) :: st) σ
  | .isub => nw_pI st fun b st => nw_pI st fun a st => k (pc + 1) ls (.inr (a - b) :: st) σ
  | .imul => nw_pI st fun b st => nw_pI st fun a st => k (pc + 1) ls (.inr (a * b) :: st) σ
  | .idiv => nw_pI st fun b st => nw_pI st fun a st => (0 ≤ a ∧ a < 2147483648 ∧ 0 < b ∧ b < 2147483648) ∧ k (pc + 1) ls (.inr (a / b) :: st) σ
  | .irem => nw_pI st fun b st => nw_pI st fun a st => (0 ≤ a ∧ a < 2147483648 ∧ 0 < b ∧ b < 2147483648) ∧ k (pc + 1) ls (.inr (a % b) :: st) σ
  | .ineg => nw_pI st fun a st => k (pc + 1) ls (.inr (-a) :: st) σ
  | .iand => nw_pI st fun b st => nw_pI st fun a st => k (pc + 1) ls (.inr (nw_and a b) :: st) σ
  | .ior => nw_pI st fun b st => nw_pI st fun a st => k (pc + 1) ls (.inr (nw_or a b) :: st) σ
  | .ixor => nw_pI st fun b st => nw_pI st fun a st => k (pc + 1) ls (.inr (nw_xor a b) :: st) σ
  | .ishl => nw_pI st fun b st => nw_pI st fun a st => k (pc + 1) ls (.inr (nw_shl a b) :: st) σ
  | .ishr => nw_pI st fun b st => nw_pI st fun a st => k (pc + 1) ls (.inr (nw_shr a b) :: st) σ
  | .iushr => nw_pI st fun b st => nw_pI st fun a st => k (pc + 1) ls (.inr (nw_ushr a b) :: st) σ
  | .dup => match st with
    | a :: r => k (pc + 1) ls (a :: a :: r) σ
    | _ => False
  | .dup2 => match st with
    | a :: b :: r => k (pc + 1) ls (a :: b :: a :: b :: r) σ
    | _ => False
  | .goto o => k (nw_tg pc o) ls st σ
  | .ifCond c o => nw_pI st fun a st => nw_r a ∧ nw_br c a 0 (k (nw_tg pc o) ls st σ) (k (pc + 3) ls st σ)
  | .if_icmp c o => nw_pI st fun b st => nw_pI st fun a st => nw_r a ∧ nw_r b ∧ nw_br c a b (k (nw_tg pc o) ls st σ) (k (pc + 3) ls st σ)
  | .tableswitch d lo hi offs => nw_pI st fun a st => nw_if (decide (hi = lo + (offs.toList.length : Int) - 1)) (nw_r a ∧ ((a < lo ∨ hi < a) → k (nw_tg pc d) ls st σ) ∧ nw_sw a (fun t => k t ls st σ) pc lo offs.toList)
  | .getfield idx => nw_pR st fun q st => nw_oS (nw_fl μ idx) fun w => nw_sO q fun ci fs => nw_if (Nat.beq ci w.1) (nw_oS fs[w.2.1]? fun f => match f with
      | 0 => k (pc + 3) ls (.inr (σ q w.2.1) :: st) σ
      | 1 => k (pc + 3) ls (.inr (σ q w.2.1) :: st) σ
      | t + 2 => k (pc + 3) ls (.inl t :: st) σ)
  | .putfield idx => nw_pI st fun v st => nw_pR st fun q st => nw_oS (nw_fl μ idx) fun w => nw_sO q fun ci fs => nw_if (Nat.beq ci w.1) (nw_oS fs[w.2.1]? fun f => nw_if (Nat.beq f w.2.2) (match f with
      | 0 => k (pc + 3) ls st (nw_up σ q w.2.1 v)
      | 1 => (v = 0 ∨ v = 1) ∧ k (pc + 3) ls st (nw_up σ q w.2.1 v)
      | _ => False))
  | .iaload => nw_pI st fun j st => nw_pR st fun q st => match Nat.beq q 38 with
    | true => nw_if (Nat.beq μ 118) ((0 ≤ j ∧ j < (nw_len G : Int)) ∧ k (pc + 1) ls (.inr (nw_xs G j.toNat).toInt :: st) σ)
    | false => nw_sA q fun n z => nw_if (!z) ((0 ≤ j ∧ j < (n : Int)) ∧ k (pc + 1) ls (.inr (σ q j.toNat) :: st) σ)
  | .baload => nw_pI st fun j st => nw_pR st fun q st => nw_sA q fun n z => nw_if z ((0 ≤ j ∧ j < (n : Int)) ∧ k (pc + 1) ls (.inr (σ q j.toNat) :: st) σ)
  | .iastore => nw_pI st fun v st => nw_pI st fun j st => nw_pR st fun q st => nw_sA q fun n z => nw_if (!z) ((0 ≤ j ∧ j < (n : Int)) ∧ k (pc + 1) ls st (nw_up σ q j.toNat v))
  | .bastore => nw_pI st fun v st => nw_pI st fun j st => nw_pR st fun q st => nw_sA q fun n z => nw_if z ((0 ≤ j ∧ j < (n : Int)) ∧ (v = 0 ∨ v = 1) ∧ k (pc + 1) ls st (nw_up σ q j.toNat v))
  | .arraylength => nw_pR st fun q st => nw_if (Nat.beq q 38 && Nat.beq μ 118) (k (pc + 1) ls (.inr (nw_len G : Int) :: st) σ)
  | .invokestatic idx => nw_oS (nw_cl μ idx) fun ν => match Nat.beq ν 116, Nat.beq ν 117 with
    | true, _ => nw_pI st fun a st => nw_if (Nat.ble 1 (nw_Lv μ) && Nat.ble st.length 8) (nw_r a ∧ k (pc + 3) ls (.inr (if 0 ≤ a then a else 0 - a) :: st) σ)
    | false, true => nw_pI st fun b st => nw_pI st fun a st => nw_if (Nat.ble 1 (nw_Lv μ) && Nat.ble st.length 8) (nw_r a ∧ nw_r b ∧ k (pc + 3) ls (.inr (if a < b then b else a) :: st) σ)
    | false, false => nw_if (nw_St ν && Nat.ble (nw_Lv ν + 1) (nw_Lv μ)) (nw_ca st (nw_N ν) fun as st => nw_Tr G ν as σ (fun r u => k (pc + 3) ls (nw_ro r st) u))
  | .invokevirtual idx => nw_oS (nw_cl μ idx) fun ν => nw_if (!(nw_St ν) && Nat.ble (nw_Lv ν + 1) (nw_Lv μ)) (nw_ca st (nw_N ν + 1) fun as st => nw_pR as fun q _ => nw_sO q fun ci _ => nw_if (Nat.beq ci (nw_C ν)) (nw_Tr G ν as σ (fun r u => k (pc + 3) ls (nw_ro r st) u)))
  | .ireturn => match st with
    | [.inr v] => (match nw_Rt μ with
      | some .int => Ψ (some v) σ
      | some .boolean => (v = 0 ∨ v = 1) ∧ Ψ (some v) σ
      | _ => False)
    | _ => False
  | .return_ => match st with
    | [] => (match nw_Rt μ with
      | none => Ψ none σ
      | some _ => False)
    | _ => False
  | _ => False
def nw_fe (cd : List (List (Option Instr))) (pc : Nat) : Option Instr := (cd.getD (pc / 16) []).getD (pc % 16) none
