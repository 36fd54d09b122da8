/-! the world at the law's loop is the one that the constructors made -/
set_option maxHeartbeats 2000000 in
set_option maxRecDepth 100000 in
theorem nl_en {l : Launch} {E : va_G} {L b : Nat} {xs : Nat → Int32} {a0 a1 a2 a3 a4 a5 a6 a7 a8 a9 a10 a11 a12 a13 a14 a15 a16 a17 a18 a19 a20 a21 a22 a23 a24 a25 a26 a27 a28 a29 a30 a31 a32 a33 a34 a35 a36 a37 : Nat} {t2 t3 t4 t5 t7 t8 t9 t10 t11 t12 t13 t14 t15 t19 t21 t22 t24 t25 t27 t28 t29 t30 t31 t32 t33 t34 t35 t36 t37 : ClassId} (k : Nat) (sh : nw_sh) (hk : nw_shp[k]? = some sh) : ([(a0, .inr (4, [.ref a1, .ref a6, .ref a14, .ref a15, .ref a16, .int 1, .ref a17, .ref a18, .ref a19, .ref a20, .ref a23, .int 1])), (a1, .inr (0, [.int 0, .int 1, .ref a2, .ref a3, .ref a4, .ref a5])), (a2, .inl (t2, 5, .inl (fun _ => 0))), (a3, .inl (t3, 5, .inl (fun _ => 0))), (a4, .inl (t4, 30, .inl (fun _ => 0))), (a5, .inl (t5, 7776, .inl (fun _ => 0))), (a6, .inr (2, [.int 0, .ref a7, .ref a8, .ref a9, .ref a10, .ref a11, .ref a12, .ref a13])), (a7, .inl (t7, 12, .inl (fun _ => 0))), (a8, .inl (t8, 12, .inl (fun _ => 0))), (a9, .inl (t9, 12, .inl (fun _ => 0))), (a10, .inl (t10, 12, .inl (fun _ => 0))), (a11, .inl (t11, 12, .inl (fun _ => 0))), (a12, .inl (t12, 12, .inl (fun _ => 0))), (a13, .inl (t13, 4096, .inl (fun _ => 0))), (a14, .inl (t14, 7776, .inl (fun _ => 0))), (a15, .inl (t15, 5, .inl (fun _ => 0))), (a16, .inr (3, [.int 0, .int 0, .int 0, .int 0])), (a17, .inr (3, [.int 0, .int 0, .int 0, .int 0])), (a18, .inr (3, [.int 0, .int 0, .int 0, .int 0])), (a19, .inl (t19, 4096, .inl (fun _ => 0))), (a20, .inr (1, [.int 0, .ref a21, .ref a22])), (a21, .inl (t21, 924, .inl (fun _ => 0))), (a22, .inl (t22, 924, .inl (fun _ => 0))), (a23, .inr (1, [.int 0, .ref a24, .ref a25])), (a24, .inl (t24, 924, .inl (fun _ => 0))), (a25, .inl (t25, 924, .inl (fun _ => 0))), (a26, .inr (5, [.int 0, .ref a27, .ref a28, .int 0, .ref a29, .ref a30, .ref a31, .ref a32, .ref a33, .ref a34, .ref a35, .int 0, .ref a36, .ref a37, .int 0])), (a27, .inl (t27, 5, .inl (fun _ => 0))), (a28, .inl (t28, 30, .inl (fun _ => 0))), (a29, .inl (t29, 12, .inl (fun _ => 0))), (a30, .inl (t30, 12, .inl (fun _ => 0))), (a31, .inl (t31, 12, .inl (fun _ => 0))), (a32, .inl (t32, 12, .inl (fun _ => 0))), (a33, .inl (t33, 12, .inl (fun _ => 0))), (a34, .inl (t34, 12, .inl (fun _ => 0))), (a35, .inl (t35, 7776, .inl (fun _ => 0))), (a36, .inl (t36, 4096, .inl (fun _ => 0))), (a37, .inl (t37, 5, .inl (fun _ => 0)))] : va_W)[k]? = some (nw_ad (l, E, fun k => [a0, a1, a2, a3, a4, a5, a6, a7, a8, a9, a10, a11, a12, a13, a14, a15, a16, a17, a18, a19, a20, a21, a22, a23, a24, a25, a26, a27, a28, a29, a30, a31, a32, a33, a34, a35, a36, a37, b].getD k 0, fun k => [t2, t2, t2, t3, t4, t5, t2, t7, t8, t9, t10, t11, t12, t13, t14, t15, t2, t2, t2, t19, t2, t21, t22, t2, t24, t25, t2, t27, t28, t29, t30, t31, t32, t33, t34, t35, t36, t37].getD k t2, L, xs) k, nw_e (l, E, fun k => [a0, a1, a2, a3, a4, a5, a6, a7, a8, a9, a10, a11, a12, a13, a14, a15, a16, a17, a18, a19, a20, a21, a22, a23, a24, a25, a26, a27, a28, a29, a30, a31, a32, a33, a34, a35, a36, a37, b].getD k 0, fun k => [t2, t2, t2, t3, t4, t5, t2, t7, t8, t9, t10, t11, t12, t13, t14, t15, t2, t2, t2, t19, t2, t21, t22, t2, t24, t25, t2, t27, t28, t29, t30, t31, t32, t33, t34, t35, t36, t37].getD k t2, L, xs) nl_s0 k sh) := by
  have hlt : k < 38 := by rw [← nw_shp_len]; exact (List.getElem?_eq_some_iff.mp hk).1
  match k, hk with
  | 0, hk => cases hk; rfl
  | 1, hk => cases hk; rfl
  | 2, hk => cases hk; rw [nl_ar (by decide)]; rfl
  | 3, hk => cases hk; rw [nl_ar (by decide)]; rfl
  | 4, hk => cases hk; rw [nl_ar (by decide)]; rfl
  | 5, hk => cases hk; rw [nl_ar (by decide)]; rfl
  | 6, hk => cases hk; rfl
  | 7, hk => cases hk; rw [nl_ar (by decide)]; rfl
  | 8, hk => cases hk; rw [nl_ar (by decide)]; rfl
  | 9, hk => cases hk; rw [nl_ar (by decide)]; rfl
  | 10, hk => cases hk; rw [nl_ar (by decide)]; rfl
  | 11, hk => cases hk; rw [nl_ar (by decide)]; rfl
  | 12, hk => cases hk; rw [nl_ar (by decide)]; rfl
  | 13, hk => cases hk; rw [nl_ar (by decide)]; rfl
  | 14, hk => cases hk; rw [nl_ar (by decide)]; rfl
  | 15, hk => cases hk; rw [nl_ar (by decide)]; rfl
  | 16, hk => cases hk; rfl
  | 17, hk => cases hk; rfl
  | 18, hk => cases hk; rfl
  | 19, hk => cases hk; rw [nl_ar (by decide)]; rfl
  | 20, hk => cases hk; rfl
  | 21, hk => cases hk; rw [nl_ar (by decide)]; rfl
  | 22, hk => cases hk; rw [nl_ar (by decide)]; rfl
  | 23, hk => cases hk; rfl
  | 24, hk => cases hk; rw [nl_ar (by decide)]; rfl
  | 25, hk => cases hk; rw [nl_ar (by decide)]; rfl
  | 26, hk => cases hk; rfl
  | 27, hk => cases hk; rw [nl_ar (by decide)]; rfl
  | 28, hk => cases hk; rw [nl_ar (by decide)]; rfl
  | 29, hk => cases hk; rw [nl_ar (by decide)]; rfl
  | 30, hk => cases hk; rw [nl_ar (by decide)]; rfl
  | 31, hk => cases hk; rw [nl_ar (by decide)]; rfl
  | 32, hk => cases hk; rw [nl_ar (by decide)]; rfl
  | 33, hk => cases hk; rw [nl_ar (by decide)]; rfl
  | 34, hk => cases hk; rw [nl_ar (by decide)]; rfl
  | 35, hk => cases hk; rw [nl_ar (by decide)]; rfl
  | 36, hk => cases hk; rw [nl_ar (by decide)]; rfl
  | 37, hk => cases hk; rw [nl_ar (by decide)]; rfl
  | k + 38, _ => omega
set_option maxHeartbeats 2000000 in
set_option maxRecDepth 100000 in
theorem nl_kk {l : Launch} {E : va_G} {L b : Nat} {xs : Nat → Int32} {a0 a1 a2 a3 a4 a5 a6 a7 a8 a9 a10 a11 a12 a13 a14 a15 a16 a17 a18 a19 a20 a21 a22 a23 a24 a25 a26 a27 a28 a29 a30 a31 a32 a33 a34 a35 a36 a37 : Nat} {t2 t3 t4 t5 t7 t8 t9 t10 t11 t12 t13 t14 t15 t19 t21 t22 t24 t25 t27 t28 t29 t30 t31 t32 t33 t34 t35 t36 t37 : ClassId} {s : State} (hK : va_K E vwCl [(t2, .int), (t3, .int), (t4, .int), (t5, .int), (t7, .int), (t8, .int), (t9, .int), (t10, .int), (t11, .int), (t12, .int), (t13, .int), (t14, .int), (t15, .int), (t19, .boolean), (t21, .int), (t22, .int), (t24, .int), (t25, .int), (t27, .int), (t28, .int), (t29, .int), (t30, .int), (t31, .int), (t32, .int), (t33, .int), (t34, .int), (t35, .int), (t36, .boolean), (t37, .int)] s) : nw_K (l, E, fun k => [a0, a1, a2, a3, a4, a5, a6, a7, a8, a9, a10, a11, a12, a13, a14, a15, a16, a17, a18, a19, a20, a21, a22, a23, a24, a25, a26, a27, a28, a29, a30, a31, a32, a33, a34, a35, a36, a37, b].getD k 0, fun k => [t2, t2, t2, t3, t4, t5, t2, t7, t8, t9, t10, t11, t12, t13, t14, t15, t2, t2, t2, t19, t2, t21, t22, t2, t24, t25, t2, t27, t28, t29, t30, t31, t32, t33, t34, t35, t36, t37].getD k t2, L, xs) s := by
  refine ⟨⟨hK.1, fun k q h => by simp at h⟩, fun k n z hk => ?_⟩
  have hlt : k < 38 := by rw [← nw_shp_len]; exact (List.getElem?_eq_some_iff.mp hk).1
  match k, hk with
  | 0, hk => cases hk
  | 1, hk => cases hk
  | 2, hk => cases hk; exact hK.2 0 _ rfl
  | 3, hk => cases hk; exact hK.2 1 _ rfl
  | 4, hk => cases hk; exact hK.2 2 _ rfl
  | 5, hk => cases hk; exact hK.2 3 _ rfl
  | 6, hk => cases hk
  | 7, hk => cases hk; exact hK.2 4 _ rfl
  | 8, hk => cases hk; exact hK.2 5 _ rfl
  | 9, hk => cases hk; exact hK.2 6 _ rfl
  | 10, hk => cases hk; exact hK.2 7 _ rfl
  | 11, hk => cases hk; exact hK.2 8 _ rfl
  | 12, hk => cases hk; exact hK.2 9 _ rfl
  | 13, hk => cases hk; exact hK.2 10 _ rfl
  | 14, hk => cases hk; exact hK.2 11 _ rfl
  | 15, hk => cases hk; exact hK.2 12 _ rfl
  | 16, hk => cases hk
  | 17, hk => cases hk
  | 18, hk => cases hk
  | 19, hk => cases hk; exact hK.2 13 _ rfl
  | 20, hk => cases hk
  | 21, hk => cases hk; exact hK.2 14 _ rfl
  | 22, hk => cases hk; exact hK.2 15 _ rfl
  | 23, hk => cases hk
  | 24, hk => cases hk; exact hK.2 16 _ rfl
  | 25, hk => cases hk; exact hK.2 17 _ rfl
  | 26, hk => cases hk
  | 27, hk => cases hk; exact hK.2 18 _ rfl
  | 28, hk => cases hk; exact hK.2 19 _ rfl
  | 29, hk => cases hk; exact hK.2 20 _ rfl
  | 30, hk => cases hk; exact hK.2 21 _ rfl
  | 31, hk => cases hk; exact hK.2 22 _ rfl
  | 32, hk => cases hk; exact hK.2 23 _ rfl
  | 33, hk => cases hk; exact hK.2 24 _ rfl
  | 34, hk => cases hk; exact hK.2 25 _ rfl
  | 35, hk => cases hk; exact hK.2 26 _ rfl
  | 36, hk => cases hk; exact hK.2 27 _ rfl
  | 37, hk => cases hk; exact hK.2 28 _ rfl
  | k + 38, _ => omega
set_option maxHeartbeats 2000000 in
set_option maxRecDepth 100000 in
theorem nl_go {l : Launch} {E : va_G} {L b : Nat} {xs : Nat → Int32} {a0 a1 a2 a3 a4 a5 a6 a7 a8 a9 a10 a11 a12 a13 a14 a15 a16 a17 a18 a19 a20 a21 a22 a23 a24 a25 a26 a27 a28 a29 a30 a31 a32 a33 a34 a35 a36 a37 : Nat} {t2 t3 t4 t5 t7 t8 t9 t10 t11 t12 t13 t14 t15 t19 t21 t22 t24 t25 t27 t28 t29 t30 t31 t32 t33 t34 t35 t36 t37 : ClassId} {p : Program} {e : Env} {s : State} {m : MethodId} {below : List Frame} {meth : Method} {c : Code} {H : Heap} {locs : List Loc} {ls : Array Slot} (hL : L ≤ 384) (C0 : lw_At p s m meth c b L xs) (hK : va_K E vwCl [(t2, .int), (t3, .int), (t4, .int), (t5, .int), (t7, .int), (t8, .int), (t9, .int), (t10, .int), (t11, .int), (t12, .int), (t13, .int), (t14, .int), (t15, .int), (t19, .boolean), (t21, .int), (t22, .int), (t24, .int), (t25, .int), (t27, .int), (t28, .int), (t29, .int), (t30, .int), (t31, .int), (t32, .int), (t33, .int), (t34, .int), (t35, .int), (t36, .boolean), (t37, .int)] s) (hP : va_P E vwCl [(a0, .inr (4, [.ref a1, .ref a6, .ref a14, .ref a15, .ref a16, .int 1, .ref a17, .ref a18, .ref a19, .ref a20, .ref a23, .int 1])), (a1, .inr (0, [.int 0, .int 1, .ref a2, .ref a3, .ref a4, .ref a5])), (a2, .inl (t2, 5, .inl (fun _ => 0))), (a3, .inl (t3, 5, .inl (fun _ => 0))), (a4, .inl (t4, 30, .inl (fun _ => 0))), (a5, .inl (t5, 7776, .inl (fun _ => 0))), (a6, .inr (2, [.int 0, .ref a7, .ref a8, .ref a9, .ref a10, .ref a11, .ref a12, .ref a13])), (a7, .inl (t7, 12, .inl (fun _ => 0))), (a8, .inl (t8, 12, .inl (fun _ => 0))), (a9, .inl (t9, 12, .inl (fun _ => 0))), (a10, .inl (t10, 12, .inl (fun _ => 0))), (a11, .inl (t11, 12, .inl (fun _ => 0))), (a12, .inl (t12, 12, .inl (fun _ => 0))), (a13, .inl (t13, 4096, .inl (fun _ => 0))), (a14, .inl (t14, 7776, .inl (fun _ => 0))), (a15, .inl (t15, 5, .inl (fun _ => 0))), (a16, .inr (3, [.int 0, .int 0, .int 0, .int 0])), (a17, .inr (3, [.int 0, .int 0, .int 0, .int 0])), (a18, .inr (3, [.int 0, .int 0, .int 0, .int 0])), (a19, .inl (t19, 4096, .inl (fun _ => 0))), (a20, .inr (1, [.int 0, .ref a21, .ref a22])), (a21, .inl (t21, 924, .inl (fun _ => 0))), (a22, .inl (t22, 924, .inl (fun _ => 0))), (a23, .inr (1, [.int 0, .ref a24, .ref a25])), (a24, .inl (t24, 924, .inl (fun _ => 0))), (a25, .inl (t25, 924, .inl (fun _ => 0))), (a26, .inr (5, [.int 0, .ref a27, .ref a28, .int 0, .ref a29, .ref a30, .ref a31, .ref a32, .ref a33, .ref a34, .ref a35, .int 0, .ref a36, .ref a37, .int 0])), (a27, .inl (t27, 5, .inl (fun _ => 0))), (a28, .inl (t28, 30, .inl (fun _ => 0))), (a29, .inl (t29, 12, .inl (fun _ => 0))), (a30, .inl (t30, 12, .inl (fun _ => 0))), (a31, .inl (t31, 12, .inl (fun _ => 0))), (a32, .inl (t32, 12, .inl (fun _ => 0))), (a33, .inl (t33, 12, .inl (fun _ => 0))), (a34, .inl (t34, 12, .inl (fun _ => 0))), (a35, .inl (t35, 7776, .inl (fun _ => 0))), (a36, .inl (t36, 4096, .inl (fun _ => 0))), (a37, .inl (t37, 5, .inl (fun _ => 0)))] H) (hD : va_D (fun q : Nat => s.heap.size ≤ q) [(a0, .inr (4, [.ref a1, .ref a6, .ref a14, .ref a15, .ref a16, .int 1, .ref a17, .ref a18, .ref a19, .ref a20, .ref a23, .int 1])), (a1, .inr (0, [.int 0, .int 1, .ref a2, .ref a3, .ref a4, .ref a5])), (a2, .inl (t2, 5, .inl (fun _ => 0))), (a3, .inl (t3, 5, .inl (fun _ => 0))), (a4, .inl (t4, 30, .inl (fun _ => 0))), (a5, .inl (t5, 7776, .inl (fun _ => 0))), (a6, .inr (2, [.int 0, .ref a7, .ref a8, .ref a9, .ref a10, .ref a11, .ref a12, .ref a13])), (a7, .inl (t7, 12, .inl (fun _ => 0))), (a8, .inl (t8, 12, .inl (fun _ => 0))), (a9, .inl (t9, 12, .inl (fun _ => 0))), (a10, .inl (t10, 12, .inl (fun _ => 0))), (a11, .inl (t11, 12, .inl (fun _ => 0))), (a12, .inl (t12, 12, .inl (fun _ => 0))), (a13, .inl (t13, 4096, .inl (fun _ => 0))), (a14, .inl (t14, 7776, .inl (fun _ => 0))), (a15, .inl (t15, 5, .inl (fun _ => 0))), (a16, .inr (3, [.int 0, .int 0, .int 0, .int 0])), (a17, .inr (3, [.int 0, .int 0, .int 0, .int 0])), (a18, .inr (3, [.int 0, .int 0, .int 0, .int 0])), (a19, .inl (t19, 4096, .inl (fun _ => 0))), (a20, .inr (1, [.int 0, .ref a21, .ref a22])), (a21, .inl (t21, 924, .inl (fun _ => 0))), (a22, .inl (t22, 924, .inl (fun _ => 0))), (a23, .inr (1, [.int 0, .ref a24, .ref a25])), (a24, .inl (t24, 924, .inl (fun _ => 0))), (a25, .inl (t25, 924, .inl (fun _ => 0))), (a26, .inr (5, [.int 0, .ref a27, .ref a28, .int 0, .ref a29, .ref a30, .ref a31, .ref a32, .ref a33, .ref a34, .ref a35, .int 0, .ref a36, .ref a37, .int 0])), (a27, .inl (t27, 5, .inl (fun _ => 0))), (a28, .inl (t28, 30, .inl (fun _ => 0))), (a29, .inl (t29, 12, .inl (fun _ => 0))), (a30, .inl (t30, 12, .inl (fun _ => 0))), (a31, .inl (t31, 12, .inl (fun _ => 0))), (a32, .inl (t32, 12, .inl (fun _ => 0))), (a33, .inl (t33, 12, .inl (fun _ => 0))), (a34, .inl (t34, 12, .inl (fun _ => 0))), (a35, .inl (t35, 7776, .inl (fun _ => 0))), (a36, .inl (t36, 4096, .inl (fun _ => 0))), (a37, .inl (t37, 5, .inl (fun _ => 0)))]) (hS : va_S (fun q : Nat => s.heap.size ≤ q) s.heap H locs) (hl : lv_has ls 4 [(3, .int 0), (2, .ref a26), (1, .ref a0), (0, .ref b)]) : W p l e room_1 s m #[Value.ref b] below meth c H locs 38 39600 (lw_Z below #[Value.ref b] s) (F0 m 18 ls []) := by
  obtain ⟨hx, hb, hr, hml, hown, htsL, hX, hbl, hlocks, hgv⟩ := id C0
  have hts : ∀ w ∈ nw_tb, w.before #[Value.ref b] s = true := fun w hw => htsL w (List.mem_filter.mp hw).1
  have hbA : ¬ (fun q : Nat => s.heap.size ≤ q) b := Nat.not_le.mpr hbl
  have hK9 := nl_kk (l := l) (L := L) (b := b) (xs := xs) (a0 := a0) (a1 := a1) (a2 := a2) (a3 := a3) (a4 := a4) (a5 := a5) (a6 := a6) (a7 := a7) (a8 := a8) (a9 := a9) (a10 := a10) (a11 := a11) (a12 := a12) (a13 := a13) (a14 := a14) (a15 := a15) (a16 := a16) (a17 := a17) (a18 := a18) (a19 := a19) (a20 := a20) (a21 := a21) (a22 := a22) (a23 := a23) (a24 := a24) (a25 := a25) (a26 := a26) (a27 := a27) (a28 := a28) (a29 := a29) (a30 := a30) (a31 := a31) (a32 := a32) (a33 := a33) (a34 := a34) (a35 := a35) (a36 := a36) (a37 := a37) (t2 := t2) (t3 := t3) (t4 := t4) (t5 := t5) (t7 := t7) (t8 := t8) (t9 := t9) (t10 := t10) (t11 := t11) (t12 := t12) (t13 := t13) (t14 := t14) (t15 := t15) (t19 := t19) (t21 := t21) (t22 := t22) (t24 := t24) (t25 := t25) (t27 := t27) (t28 := t28) (t29 := t29) (t30 := t30) (t31 := t31) (t32 := t32) (t33 := t33) (t34 := t34) (t35 := t35) (t36 := t36) (t37 := t37) hK
  have hby := nl_by (nl_en (l := l) (E := E) (L := L) (b := b) (xs := xs) (a0 := a0) (a1 := a1) (a2 := a2) (a3 := a3) (a4 := a4) (a5 := a5) (a6 := a6) (a7 := a7) (a8 := a8) (a9 := a9) (a10 := a10) (a11 := a11) (a12 := a12) (a13 := a13) (a14 := a14) (a15 := a15) (a16 := a16) (a17 := a17) (a18 := a18) (a19 := a19) (a20 := a20) (a21 := a21) (a22 := a22) (a23 := a23) (a24 := a24) (a25 := a25) (a26 := a26) (a27 := a27) (a28 := a28) (a29 := a29) (a30 := a30) (a31 := a31) (a32 := a32) (a33 := a33) (a34 := a34) (a35 := a35) (a36 := a36) (a37 := a37) (t2 := t2) (t3 := t3) (t4 := t4) (t5 := t5) (t7 := t7) (t8 := t8) (t9 := t9) (t10 := t10) (t11 := t11) (t12 := t12) (t13 := t13) (t14 := t14) (t15 := t15) (t19 := t19) (t21 := t21) (t22 := t22) (t24 := t24) (t25 := t25) (t27 := t27) (t28 := t28) (t29 := t29) (t30 := t30) (t31 := t31) (t32 := t32) (t33 := t33) (t34 := t34) (t35 := t35) (t36 := t36) (t37 := t37))
  have hP9 := hP.by id hby
  obtain ⟨hI9, hA9⟩ := nl_I (hD.by id hby (fun i j _ _ h => h))
  refine nl_begin (G := (l, E, fun k => [a0, a1, a2, a3, a4, a5, a6, a7, a8, a9, a10, a11, a12, a13, a14, a15, a16, a17, a18, a19, a20, a21, a22, a23, a24, a25, a26, a27, a28, a29, a30, a31, a32, a33, a34, a35, a36, a37, b].getD k 0, fun k => [t2, t2, t2, t3, t4, t5, t2, t7, t8, t9, t10, t11, t12, t13, t14, t15, t2, t2, t2, t19, t2, t21, t22, t2, t24, t25, t2, t27, t28, t29, t30, t31, t32, t33, t34, t35, t36, t37].getD k t2, L, xs)) hL p e s m #[Value.ref b] below meth c 38 39600 _ room_1 (fun q : Nat => s.heap.size ≤ q) ⟨hx, hb, hml, hown, hts, hK9, hI9, by decide, by decide, Nat.le_refl _, Nat.le_refl _, hA9, ?_, fun _ => ⟨hX, hbl, hbA, ?_⟩⟩ H _ ls ⟨hl.1, hl.2.1, fun i v hi => ?_⟩ hP9 hS
  · intro r u H1 locs1 pc la _ hΨ _ hS1 hd
    cases r with
    | none => exact hΨ.elim
    | some v =>
      have hv : v = 1 := hΨ
      subst hv
      exact va_forget (fun q hq => hS1.2.2 q hq) (lw_ret hx hb hr hlocks hd)
  · exact Nat.lt_of_le_of_lt hL (by decide)
  · match i, hi with
    | 0, hi => cases hi; exact lv_at hl 3 rfl
    | 1, hi => cases hi; exact lv_at hl 2 rfl
    | 2, hi => cases hi; exact lv_at hl 1 rfl
    | 3, hi => cases hi; exact lv_at hl 0 rfl
    | i + 4, hi => simp at hi
