/-! ### BarrowGrief$World.<init> -/
abbrev rm_X5_init : Room := { frames := 1, cells := 4, slots := 23, locals := 12 }
set_option maxHeartbeats 8000000 in
set_option maxRecDepth 100000 in
theorem b_X5_init {p : Program} {l : Launch} {e : Env} {s : State} {m : MethodId} {args : Array Value} {below : List Frame} {meth : Method} {c : Code} {D : va_G} {cy : Nat → ClassId} {A : Nat → Prop} {q : Nat} (C0 : cx_C cX5_init (none) 1 RX5 (.code yX5_init cX5_init 1 (none) :: wg_L) p s m args meth c D cy A) (hin : meth.name = "<init>") {H : Heap} {locs : List Loc} {ls : Array Slot} (hP : va_P D vwCl [(q, .inr (5, [.null, .null, .null, .null, .int 0, .int 0, .int 0, .int 0, .int 0, .int 0, .int 0]))] H) (hD : va_D A [(q, .inr (5, [.null, .null, .null, .null, .int 0, .int 0, .int 0, .int 0, .int 0, .int 0, .int 0]))]) (hS : va_S A s.heap H locs) (hl : lv_has ls 1 [(0, .ref q)]) : W p l e rm_X5_init s m args below meth c H locs 0 0 (MQ below (va_Qv (fun (_ : Nat → Nat) => True) (fun u t => st_B D cy A ((fun (u : Nat → Nat) => [(q, .inr (5, [.ref (u 0), .ref (u 1), .ref (u 2), .ref (u 3), .int 0, .int 0, .int 30, .int 0, .int 0, .int 0, .int 0])), ((u 0), .inl (cy 1, 5, .inl (fun _ => 0))), ((u 1), .inl (cy 1, 5, .inl (fun _ => 0))), ((u 2), .inl (cy 1, 5, .inl (fun _ => 0))), ((u 3), .inl (cy 1, 8, .inl (fun _ => 0)))]) u) t) A) args s 4 23 A) (F0 m 0 ls []) := by
  obtain ⟨hx, hb, hr, hml, hown, hts, hK, hlocks, hA⟩ := id C0
  refine lv_aload_n hx hb dX5_init_0 rfl (lv_at hl 0 rfl) ?_
  refine W.objInit hx hb hown (hts _ (List.mem_cons_of_mem _ k_30)) (hts _ (List.mem_cons_of_mem _ k_23)) (hts _ (List.mem_cons_of_mem _ k_24)) rfl (by rw [hml]; exact hl.1) rfl dX5_init_1 (Nat.le_of_ble_eq_true rfl) (Nat.le_of_ble_eq_true rfl) ?_
  refine W.eq (g2 := F0 m 4 ls []) rfl ?_
  refine lv_aload_n hx hb dX5_init_4 rfl (lv_at hl 0 rfl) ?_
  refine lv_iconst (v := 5) hx hb dX5_init_5 (by decide) ?_
  refine va_newa (atype := .int) (ty := .int) (a0 := (5, .inl (fun _ => 0))) hx hb (hts _ (List.mem_cons_of_mem _ k_82)) rfl hK.1 hP hD hS hA (fun _ => rfl) (by decide) rfl (by decide) (by decide) (by decide) dX5_init_6 (fun q1 cA H hK1 hP hD hS => ?_)
  obtain rfl := cy_i hK1
  have hP : va_P D vwCl [(q, .inr (5, [.null, .null, .null, .null, .int 0, .int 0, .int 0, .int 0, .int 0, .int 0, .int 0])), (q1, .inl (cy 1, 5, .inl (fun _ => 0)))] H := hP
  have hD : va_D A [(q, .inr (5, [.null, .null, .null, .null, .int 0, .int 0, .int 0, .int 0, .int 0, .int 0, .int 0])), (q1, .inl (cy 1, 5, .inl (fun _ => 0)))] := hD
  refine W.widen (k := 1) (n := 5) (by omega) (by omega) ?_
  refine va_putF (D := D) (ci := 5) (v := .ref q1) (ty := .array .int) (C := RX5) (T := TX5) (N := 11) hx hb hts (fun w hw => List.mem_cons_of_mem _ (uw_X5 w hw)) tyX5 tyX5_ok nmX5 hown hK.1 hP hD hS 0 rfl rfl 0 (by decide) (hts _ (List.mem_cons_of_mem _ k_31)) (fun _ h9 => h9) rfl hin rfl (by decide +kernel) rfl rfl (Nat.le_of_ble_eq_true rfl) dX5_init_8 (fun H locs hP hD hS => ?_)
  have hP : va_P D vwCl [(q, .inr (5, [.ref q1, .null, .null, .null, .int 0, .int 0, .int 0, .int 0, .int 0, .int 0, .int 0])), (q1, .inl (cy 1, 5, .inl (fun _ => 0)))] H := hP
  have hD : va_D A [(q, .inr (5, [.ref q1, .null, .null, .null, .int 0, .int 0, .int 0, .int 0, .int 0, .int 0, .int 0])), (q1, .inl (cy 1, 5, .inl (fun _ => 0)))] := hD
  refine lv_aload_n hx hb dX5_init_11 rfl (lv_at hl 0 rfl) ?_
  refine lv_iconst (v := 5) hx hb dX5_init_12 (by decide) ?_
  refine va_newa (atype := .int) (ty := .int) (a0 := (5, .inl (fun _ => 0))) hx hb (hts _ (List.mem_cons_of_mem _ k_82)) rfl hK.1 hP hD hS hA (fun _ => rfl) (by decide) rfl (by decide) (by decide) (by decide) dX5_init_13 (fun q2 cA H hK1 hP hD hS => ?_)
  obtain rfl := cy_i hK1
  have hP : va_P D vwCl [(q, .inr (5, [.ref q1, .null, .null, .null, .int 0, .int 0, .int 0, .int 0, .int 0, .int 0, .int 0])), (q1, .inl (cy 1, 5, .inl (fun _ => 0))), (q2, .inl (cy 1, 5, .inl (fun _ => 0)))] H := hP
  have hD : va_D A [(q, .inr (5, [.ref q1, .null, .null, .null, .int 0, .int 0, .int 0, .int 0, .int 0, .int 0, .int 0])), (q1, .inl (cy 1, 5, .inl (fun _ => 0))), (q2, .inl (cy 1, 5, .inl (fun _ => 0)))] := hD
  refine W.widen (k := 2) (n := 10) (by omega) (by omega) ?_
  refine va_putF (D := D) (ci := 5) (v := .ref q2) (ty := .array .int) (C := RX5) (T := TX5) (N := 11) hx hb hts (fun w hw => List.mem_cons_of_mem _ (uw_X5 w hw)) tyX5 tyX5_ok nmX5 hown hK.1 hP hD hS 0 rfl rfl 1 (by decide) (hts _ (List.mem_cons_of_mem _ k_33)) (fun _ h9 => h9) rfl hin rfl (by decide +kernel) rfl rfl (Nat.le_of_ble_eq_true rfl) dX5_init_15 (fun H locs hP hD hS => ?_)
  have hP : va_P D vwCl [(q, .inr (5, [.ref q1, .ref q2, .null, .null, .int 0, .int 0, .int 0, .int 0, .int 0, .int 0, .int 0])), (q1, .inl (cy 1, 5, .inl (fun _ => 0))), (q2, .inl (cy 1, 5, .inl (fun _ => 0)))] H := hP
  have hD : va_D A [(q, .inr (5, [.ref q1, .ref q2, .null, .null, .int 0, .int 0, .int 0, .int 0, .int 0, .int 0, .int 0])), (q1, .inl (cy 1, 5, .inl (fun _ => 0))), (q2, .inl (cy 1, 5, .inl (fun _ => 0)))] := hD
  refine lv_aload_n hx hb dX5_init_18 rfl (lv_at hl 0 rfl) ?_
  refine lv_iconst (v := 5) hx hb dX5_init_19 (by decide) ?_
  refine va_newa (atype := .int) (ty := .int) (a0 := (5, .inl (fun _ => 0))) hx hb (hts _ (List.mem_cons_of_mem _ k_82)) rfl hK.1 hP hD hS hA (fun _ => rfl) (by decide) rfl (by decide) (by decide) (by decide) dX5_init_20 (fun q3 cA H hK1 hP hD hS => ?_)
  obtain rfl := cy_i hK1
  have hP : va_P D vwCl [(q, .inr (5, [.ref q1, .ref q2, .null, .null, .int 0, .int 0, .int 0, .int 0, .int 0, .int 0, .int 0])), (q1, .inl (cy 1, 5, .inl (fun _ => 0))), (q2, .inl (cy 1, 5, .inl (fun _ => 0))), (q3, .inl (cy 1, 5, .inl (fun _ => 0)))] H := hP
  have hD : va_D A [(q, .inr (5, [.ref q1, .ref q2, .null, .null, .int 0, .int 0, .int 0, .int 0, .int 0, .int 0, .int 0])), (q1, .inl (cy 1, 5, .inl (fun _ => 0))), (q2, .inl (cy 1, 5, .inl (fun _ => 0))), (q3, .inl (cy 1, 5, .inl (fun _ => 0)))] := hD
  refine W.widen (k := 3) (n := 15) (by omega) (by omega) ?_
  refine va_putF (D := D) (ci := 5) (v := .ref q3) (ty := .array .int) (C := RX5) (T := TX5) (N := 11) hx hb hts (fun w hw => List.mem_cons_of_mem _ (uw_X5 w hw)) tyX5 tyX5_ok nmX5 hown hK.1 hP hD hS 0 rfl rfl 2 (by decide) (hts _ (List.mem_cons_of_mem _ k_36)) (fun _ h9 => h9) rfl hin rfl (by decide +kernel) rfl rfl (Nat.le_of_ble_eq_true rfl) dX5_init_22 (fun H locs hP hD hS => ?_)
  have hP : va_P D vwCl [(q, .inr (5, [.ref q1, .ref q2, .ref q3, .null, .int 0, .int 0, .int 0, .int 0, .int 0, .int 0, .int 0])), (q1, .inl (cy 1, 5, .inl (fun _ => 0))), (q2, .inl (cy 1, 5, .inl (fun _ => 0))), (q3, .inl (cy 1, 5, .inl (fun _ => 0)))] H := hP
  have hD : va_D A [(q, .inr (5, [.ref q1, .ref q2, .ref q3, .null, .int 0, .int 0, .int 0, .int 0, .int 0, .int 0, .int 0])), (q1, .inl (cy 1, 5, .inl (fun _ => 0))), (q2, .inl (cy 1, 5, .inl (fun _ => 0))), (q3, .inl (cy 1, 5, .inl (fun _ => 0)))] := hD
  refine lv_aload_n hx hb dX5_init_25 rfl (lv_at hl 0 rfl) ?_
  refine lv_bipush (v := 8) hx hb dX5_init_26 (by decide) ?_
  refine va_newa (atype := .int) (ty := .int) (a0 := (8, .inl (fun _ => 0))) hx hb (hts _ (List.mem_cons_of_mem _ k_82)) rfl hK.1 hP hD hS hA (fun _ => rfl) (by decide) rfl (by decide) (by decide) (by decide) dX5_init_28 (fun q4 cA H hK1 hP hD hS => ?_)
  obtain rfl := cy_i hK1
  have hP : va_P D vwCl [(q, .inr (5, [.ref q1, .ref q2, .ref q3, .null, .int 0, .int 0, .int 0, .int 0, .int 0, .int 0, .int 0])), (q1, .inl (cy 1, 5, .inl (fun _ => 0))), (q2, .inl (cy 1, 5, .inl (fun _ => 0))), (q3, .inl (cy 1, 5, .inl (fun _ => 0))), (q4, .inl (cy 1, 8, .inl (fun _ => 0)))] H := hP
  have hD : va_D A [(q, .inr (5, [.ref q1, .ref q2, .ref q3, .null, .int 0, .int 0, .int 0, .int 0, .int 0, .int 0, .int 0])), (q1, .inl (cy 1, 5, .inl (fun _ => 0))), (q2, .inl (cy 1, 5, .inl (fun _ => 0))), (q3, .inl (cy 1, 5, .inl (fun _ => 0))), (q4, .inl (cy 1, 8, .inl (fun _ => 0)))] := hD
  refine W.widen (k := 4) (n := 23) (by omega) (by omega) ?_
  refine va_putF (D := D) (ci := 5) (v := .ref q4) (ty := .array .int) (C := RX5) (T := TX5) (N := 11) hx hb hts (fun w hw => List.mem_cons_of_mem _ (uw_X5 w hw)) tyX5 tyX5_ok nmX5 hown hK.1 hP hD hS 0 rfl rfl 3 (by decide) (hts _ (List.mem_cons_of_mem _ k_38)) (fun _ h9 => h9) rfl hin rfl (by decide +kernel) rfl rfl (Nat.le_of_ble_eq_true rfl) dX5_init_30 (fun H locs hP hD hS => ?_)
  have hP : va_P D vwCl [(q, .inr (5, [.ref q1, .ref q2, .ref q3, .ref q4, .int 0, .int 0, .int 0, .int 0, .int 0, .int 0, .int 0])), (q1, .inl (cy 1, 5, .inl (fun _ => 0))), (q2, .inl (cy 1, 5, .inl (fun _ => 0))), (q3, .inl (cy 1, 5, .inl (fun _ => 0))), (q4, .inl (cy 1, 8, .inl (fun _ => 0)))] H := hP
  have hD : va_D A [(q, .inr (5, [.ref q1, .ref q2, .ref q3, .ref q4, .int 0, .int 0, .int 0, .int 0, .int 0, .int 0, .int 0])), (q1, .inl (cy 1, 5, .inl (fun _ => 0))), (q2, .inl (cy 1, 5, .inl (fun _ => 0))), (q3, .inl (cy 1, 5, .inl (fun _ => 0))), (q4, .inl (cy 1, 8, .inl (fun _ => 0)))] := hD
  refine lv_aload_n hx hb dX5_init_33 rfl (lv_at hl 0 rfl) ?_
  refine lv_bipush (v := 30) hx hb dX5_init_34 (by decide) ?_
  refine va_put (D := D) (ci := 5) (v := .int 30) (ty := .int) (C := RX5) (T := TX5) (N := 11) hx hb hts (fun w hw => List.mem_cons_of_mem _ (uw_X5 w hw)) tyX5 tyX5_ok nmX5 hown hK.1 hP hD hS 0 rfl rfl 6 (by decide) (hts _ (List.mem_cons_of_mem _ k_47)) (fun _ h9 => h9) rfl (by decide +kernel) rfl rfl (Nat.le_of_ble_eq_true rfl) dX5_init_36 (fun H locs hP hD hS => ?_)
  have hP : va_P D vwCl [(q, .inr (5, [.ref q1, .ref q2, .ref q3, .ref q4, .int 0, .int 0, .int 30, .int 0, .int 0, .int 0, .int 0])), (q1, .inl (cy 1, 5, .inl (fun _ => 0))), (q2, .inl (cy 1, 5, .inl (fun _ => 0))), (q3, .inl (cy 1, 5, .inl (fun _ => 0))), (q4, .inl (cy 1, 8, .inl (fun _ => 0)))] H := hP
  have hD : va_D A [(q, .inr (5, [.ref q1, .ref q2, .ref q3, .ref q4, .int 0, .int 0, .int 30, .int 0, .int 0, .int 0, .int 0])), (q1, .inl (cy 1, 5, .inl (fun _ => 0))), (q2, .inl (cy 1, 5, .inl (fun _ => 0))), (q3, .inl (cy 1, 5, .inl (fun _ => 0))), (q4, .inl (cy 1, 8, .inl (fun _ => 0)))] := hD
  have hEnd : True := trivial
  have hP : va_P D vwCl ((fun (u : Nat → Nat) => [(q, .inr (5, [.ref (u 0), .ref (u 1), .ref (u 2), .ref (u 3), .int 0, .int 0, .int 30, .int 0, .int 0, .int 0, .int 0])), ((u 0), .inl (cy 1, 5, .inl (fun _ => 0))), ((u 1), .inl (cy 1, 5, .inl (fun _ => 0))), ((u 2), .inl (cy 1, 5, .inl (fun _ => 0))), ((u 3), .inl (cy 1, 8, .inl (fun _ => 0)))]) (fun k => [q1, q2, q3, q4].getD k 0)) H := hP
  have hD : va_D A ((fun (u : Nat → Nat) => [(q, .inr (5, [.ref (u 0), .ref (u 1), .ref (u 2), .ref (u 3), .int 0, .int 0, .int 30, .int 0, .int 0, .int 0, .int 0])), ((u 0), .inl (cy 1, 5, .inl (fun _ => 0))), ((u 1), .inl (cy 1, 5, .inl (fun _ => 0))), ((u 2), .inl (cy 1, 5, .inl (fun _ => 0))), ((u 3), .inl (cy 1, 8, .inl (fun _ => 0)))]) (fun k => [q1, q2, q3, q4].getD k 0)) := hD
  exact W.vret hx hb hr (fun tt ht hW => ⟨⟨fun k => [q1, q2, q3, q4].getD k 0, rfl, trivial, by rw [ht]; exact hP, kk_warm hW hK, hD⟩, hS.F ht⟩) hS.2.2 dX5_init_39
set_option maxHeartbeats 4000000 in
set_option maxRecDepth 100000 in
theorem c_X5_init (l : Launch) (D : va_G) (cy : Nat → ClassId) (sz : Nat) (q : Nat) : cc_v l yX5_init (.code yX5_init cX5_init 1 (none) :: wg_L) rm_X5_init D cy sz [(q, .inr (5, [.null, .null, .null, .null, .int 0, .int 0, .int 0, .int 0, .int 0, .int 0, .int 0]))] [.ref q] (fun (u : Nat → Nat) => [(q, .inr (5, [.ref (u 0), .ref (u 1), .ref (u 2), .ref (u 3), .int 0, .int 0, .int 30, .int 0, .int 0, .int 0, .int 0])), ((u 0), .inl (cy 1, 5, .inl (fun _ => 0))), ((u 1), .inl (cy 1, 5, .inl (fun _ => 0))), ((u 2), .inl (cy 1, 5, .inl (fun _ => 0))), ((u 3), .inl (cy 1, 8, .inl (fun _ => 0)))]) 4 23 := by
  refine Met.ofW (cc := cX5_init) (maxL := 1) (ret := none) (by decide) rfl ?_
  intro p e s m args below meth c s₁ B hml hv
  obtain ⟨rfl, hsz, hP, hK, hD0⟩ := hv
  subst hsz
  have hD := hD0.self (sz := s.heap.size)
  have hl := lv_entry ([.ref q]) (n := 1) (Nat.le_of_ble_eq_true rfl)
  rw [lg_entry_eq]
  have C0 : cx_C cX5_init (none) 1 RX5 (.code yX5_init cX5_init 1 (none) :: wg_L) p s m ([.ref q] : List Value).toArray meth c D cy (va_A [(q, .inr (5, [.null, .null, .null, .null, .int 0, .int 0, .int 0, .int 0, .int 0, .int 0, .int 0]))] s.heap.size) := ⟨B.exec, B.bytes, B.returns, hml, findClass_of_methodNamed B.named, atoms_spec (ws := (.code yX5_init cX5_init 1 (none) :: wg_L)) B.pre, hK, B.notSynchronized, fun q h => Or.inr h⟩
  exact b_X5_init C0 (name_of_methodNamed B.named B.method).1 hP hD va_S.rf (lv_sub hl [0] rfl)
/-! ### BarrowGrief$Sights.<init> -/
abbrev rm_X3_init : Room := { frames := 1, cells := 3, slots := 18, locals := 12 }
set_option maxHeartbeats 8000000 in
set_option maxRecDepth 100000 in
theorem b_X3_init {p : Program} {l : Launch} {e : Env} {s : State} {m : MethodId} {args : Array Value} {below : List Frame} {meth : Method} {c : Code} {D : va_G} {cy : Nat → ClassId} {A : Nat → Prop} {q : Nat} (C0 : cx_C cX3_init (none) 1 RX3 (.code yX3_init cX3_init 1 (none) :: wg_L) p s m args meth c D cy A) (hin : meth.name = "<init>") {H : Heap} {locs : List Loc} {ls : Array Slot} (hP : va_P D vwCl [(q, .inr (3, [.null, .null, .null, .int 0]))] H) (hD : va_D A [(q, .inr (3, [.null, .null, .null, .int 0]))]) (hS : va_S A s.heap H locs) (hl : lv_has ls 1 [(0, .ref q)]) : W p l e rm_X3_init s m args below meth c H locs 0 0 (MQ below (va_Qv (fun (_ : Nat → Nat) => True) (fun u t => st_B D cy A ((fun (u : Nat → Nat) => [(q, .inr (3, [.ref (u 0), .ref (u 1), .ref (u 2), .int 0])), ((u 0), .inl (cy 1, 6, .inl (fun _ => 0))), ((u 1), .inl (cy 1, 6, .inl (fun _ => 0))), ((u 2), .inl (cy 1, 6, .inl (fun _ => 0)))]) u) t) A) args s 3 18 A) (F0 m 0 ls []) := by
  obtain ⟨hx, hb, hr, hml, hown, hts, hK, hlocks, hA⟩ := id C0
  refine lv_aload_n hx hb dX3_init_0 rfl (lv_at hl 0 rfl) ?_
  refine W.objInit hx hb hown (hts _ (List.mem_cons_of_mem _ k_89)) (hts _ (List.mem_cons_of_mem _ k_23)) (hts _ (List.mem_cons_of_mem _ k_24)) rfl (by rw [hml]; exact hl.1) rfl dX3_init_1 (Nat.le_of_ble_eq_true rfl) (Nat.le_of_ble_eq_true rfl) ?_
  refine W.eq (g2 := F0 m 4 ls []) rfl ?_
  refine lv_aload_n hx hb dX3_init_4 rfl (lv_at hl 0 rfl) ?_
  refine lv_bipush (v := 6) hx hb dX3_init_5 (by decide) ?_
  refine va_newa (atype := .int) (ty := .int) (a0 := (6, .inl (fun _ => 0))) hx hb (hts _ (List.mem_cons_of_mem _ k_82)) rfl hK.1 hP hD hS hA (fun _ => rfl) (by decide) rfl (by decide) (by decide) (by decide) dX3_init_7 (fun q1 cA H hK1 hP hD hS => ?_)
  obtain rfl := cy_i hK1
  have hP : va_P D vwCl [(q, .inr (3, [.null, .null, .null, .int 0])), (q1, .inl (cy 1, 6, .inl (fun _ => 0)))] H := hP
  have hD : va_D A [(q, .inr (3, [.null, .null, .null, .int 0])), (q1, .inl (cy 1, 6, .inl (fun _ => 0)))] := hD
  refine W.widen (k := 1) (n := 6) (by omega) (by omega) ?_
  refine va_putF (D := D) (ci := 3) (v := .ref q1) (ty := .array .int) (C := RX3) (T := TX3) (N := 4) hx hb hts (fun w hw => List.mem_cons_of_mem _ (uw_X3 w hw)) tyX3 tyX3_ok nmX3 hown hK.1 hP hD hS 0 rfl rfl 0 (by decide) (hts _ (List.mem_cons_of_mem _ k_90)) (fun _ h9 => h9) rfl hin rfl (by decide +kernel) rfl rfl (Nat.le_of_ble_eq_true rfl) dX3_init_9 (fun H locs hP hD hS => ?_)
  have hP : va_P D vwCl [(q, .inr (3, [.ref q1, .null, .null, .int 0])), (q1, .inl (cy 1, 6, .inl (fun _ => 0)))] H := hP
  have hD : va_D A [(q, .inr (3, [.ref q1, .null, .null, .int 0])), (q1, .inl (cy 1, 6, .inl (fun _ => 0)))] := hD
  refine lv_aload_n hx hb dX3_init_12 rfl (lv_at hl 0 rfl) ?_
  refine lv_bipush (v := 6) hx hb dX3_init_13 (by decide) ?_
  refine va_newa (atype := .int) (ty := .int) (a0 := (6, .inl (fun _ => 0))) hx hb (hts _ (List.mem_cons_of_mem _ k_82)) rfl hK.1 hP hD hS hA (fun _ => rfl) (by decide) rfl (by decide) (by decide) (by decide) dX3_init_15 (fun q2 cA H hK1 hP hD hS => ?_)
  obtain rfl := cy_i hK1
  have hP : va_P D vwCl [(q, .inr (3, [.ref q1, .null, .null, .int 0])), (q1, .inl (cy 1, 6, .inl (fun _ => 0))), (q2, .inl (cy 1, 6, .inl (fun _ => 0)))] H := hP
  have hD : va_D A [(q, .inr (3, [.ref q1, .null, .null, .int 0])), (q1, .inl (cy 1, 6, .inl (fun _ => 0))), (q2, .inl (cy 1, 6, .inl (fun _ => 0)))] := hD
  refine W.widen (k := 2) (n := 12) (by omega) (by omega) ?_
  refine va_putF (D := D) (ci := 3) (v := .ref q2) (ty := .array .int) (C := RX3) (T := TX3) (N := 4) hx hb hts (fun w hw => List.mem_cons_of_mem _ (uw_X3 w hw)) tyX3 tyX3_ok nmX3 hown hK.1 hP hD hS 0 rfl rfl 1 (by decide) (hts _ (List.mem_cons_of_mem _ k_91)) (fun _ h9 => h9) rfl hin rfl (by decide +kernel) rfl rfl (Nat.le_of_ble_eq_true rfl) dX3_init_17 (fun H locs hP hD hS => ?_)
  have hP : va_P D vwCl [(q, .inr (3, [.ref q1, .ref q2, .null, .int 0])), (q1, .inl (cy 1, 6, .inl (fun _ => 0))), (q2, .inl (cy 1, 6, .inl (fun _ => 0)))] H := hP
  have hD : va_D A [(q, .inr (3, [.ref q1, .ref q2, .null, .int 0])), (q1, .inl (cy 1, 6, .inl (fun _ => 0))), (q2, .inl (cy 1, 6, .inl (fun _ => 0)))] := hD
  refine lv_aload_n hx hb dX3_init_20 rfl (lv_at hl 0 rfl) ?_
  refine lv_bipush (v := 6) hx hb dX3_init_21 (by decide) ?_
  refine va_newa (atype := .int) (ty := .int) (a0 := (6, .inl (fun _ => 0))) hx hb (hts _ (List.mem_cons_of_mem _ k_82)) rfl hK.1 hP hD hS hA (fun _ => rfl) (by decide) rfl (by decide) (by decide) (by decide) dX3_init_23 (fun q3 cA H hK1 hP hD hS => ?_)
  obtain rfl := cy_i hK1
  have hP : va_P D vwCl [(q, .inr (3, [.ref q1, .ref q2, .null, .int 0])), (q1, .inl (cy 1, 6, .inl (fun _ => 0))), (q2, .inl (cy 1, 6, .inl (fun _ => 0))), (q3, .inl (cy 1, 6, .inl (fun _ => 0)))] H := hP
  have hD : va_D A [(q, .inr (3, [.ref q1, .ref q2, .null, .int 0])), (q1, .inl (cy 1, 6, .inl (fun _ => 0))), (q2, .inl (cy 1, 6, .inl (fun _ => 0))), (q3, .inl (cy 1, 6, .inl (fun _ => 0)))] := hD
  refine W.widen (k := 3) (n := 18) (by omega) (by omega) ?_
  refine va_putF (D := D) (ci := 3) (v := .ref q3) (ty := .array .int) (C := RX3) (T := TX3) (N := 4) hx hb hts (fun w hw => List.mem_cons_of_mem _ (uw_X3 w hw)) tyX3 tyX3_ok nmX3 hown hK.1 hP hD hS 0 rfl rfl 2 (by decide) (hts _ (List.mem_cons_of_mem _ k_92)) (fun _ h9 => h9) rfl hin rfl (by decide +kernel) rfl rfl (Nat.le_of_ble_eq_true rfl) dX3_init_25 (fun H locs hP hD hS => ?_)
  have hP : va_P D vwCl [(q, .inr (3, [.ref q1, .ref q2, .ref q3, .int 0])), (q1, .inl (cy 1, 6, .inl (fun _ => 0))), (q2, .inl (cy 1, 6, .inl (fun _ => 0))), (q3, .inl (cy 1, 6, .inl (fun _ => 0)))] H := hP
  have hD : va_D A [(q, .inr (3, [.ref q1, .ref q2, .ref q3, .int 0])), (q1, .inl (cy 1, 6, .inl (fun _ => 0))), (q2, .inl (cy 1, 6, .inl (fun _ => 0))), (q3, .inl (cy 1, 6, .inl (fun _ => 0)))] := hD
  have hEnd : True := trivial
  have hP : va_P D vwCl ((fun (u : Nat → Nat) => [(q, .inr (3, [.ref (u 0), .ref (u 1), .ref (u 2), .int 0])), ((u 0), .inl (cy 1, 6, .inl (fun _ => 0))), ((u 1), .inl (cy 1, 6, .inl (fun _ => 0))), ((u 2), .inl (cy 1, 6, .inl (fun _ => 0)))]) (fun k => [q1, q2, q3].getD k 0)) H := hP
  have hD : va_D A ((fun (u : Nat → Nat) => [(q, .inr (3, [.ref (u 0), .ref (u 1), .ref (u 2), .int 0])), ((u 0), .inl (cy 1, 6, .inl (fun _ => 0))), ((u 1), .inl (cy 1, 6, .inl (fun _ => 0))), ((u 2), .inl (cy 1, 6, .inl (fun _ => 0)))]) (fun k => [q1, q2, q3].getD k 0)) := hD
  exact W.vret hx hb hr (fun tt ht hW => ⟨⟨fun k => [q1, q2, q3].getD k 0, rfl, trivial, by rw [ht]; exact hP, kk_warm hW hK, hD⟩, hS.F ht⟩) hS.2.2 dX3_init_28
set_option maxHeartbeats 4000000 in
set_option maxRecDepth 100000 in
theorem c_X3_init (l : Launch) (D : va_G) (cy : Nat → ClassId) (sz : Nat) (q : Nat) : cc_v l yX3_init (.code yX3_init cX3_init 1 (none) :: wg_L) rm_X3_init D cy sz [(q, .inr (3, [.null, .null, .null, .int 0]))] [.ref q] (fun (u : Nat → Nat) => [(q, .inr (3, [.ref (u 0), .ref (u 1), .ref (u 2), .int 0])), ((u 0), .inl (cy 1, 6, .inl (fun _ => 0))), ((u 1), .inl (cy 1, 6, .inl (fun _ => 0))), ((u 2), .inl (cy 1, 6, .inl (fun _ => 0)))]) 3 18 := by
  refine Met.ofW (cc := cX3_init) (maxL := 1) (ret := none) (by decide) rfl ?_
  intro p e s m args below meth c s₁ B hml hv
  obtain ⟨rfl, hsz, hP, hK, hD0⟩ := hv
  subst hsz
  have hD := hD0.self (sz := s.heap.size)
  have hl := lv_entry ([.ref q]) (n := 1) (Nat.le_of_ble_eq_true rfl)
  rw [lg_entry_eq]
  have C0 : cx_C cX3_init (none) 1 RX3 (.code yX3_init cX3_init 1 (none) :: wg_L) p s m ([.ref q] : List Value).toArray meth c D cy (va_A [(q, .inr (3, [.null, .null, .null, .int 0]))] s.heap.size) := ⟨B.exec, B.bytes, B.returns, hml, findClass_of_methodNamed B.named, atoms_spec (ws := (.code yX3_init cX3_init 1 (none) :: wg_L)) B.pre, hK, B.notSynchronized, fun q h => Or.inr h⟩
  exact b_X3_init C0 (name_of_methodNamed B.named B.method).1 hP hD va_S.rf (lv_sub hl [0] rfl)
/-! ### BarrowGrief$Sheet.<init> -/
abbrev rm_X2_init : Room := { frames := 1, cells := 1, slots := 40, locals := 12 }
set_option maxHeartbeats 8000000 in
set_option maxRecDepth 100000 in
theorem b_X2_init {p : Program} {l : Launch} {e : Env} {s : State} {m : MethodId} {args : Array Value} {below : List Frame} {meth : Method} {c : Code} {D : va_G} {cy : Nat → ClassId} {A : Nat → Prop} {q : Nat} (C0 : cx_C cX2_init (none) 1 RX2 (.code yX2_init cX2_init 1 (none) :: wg_L) p s m args meth c D cy A) (hin : meth.name = "<init>") {H : Heap} {locs : List Loc} {ls : Array Slot} (hP : va_P D vwCl [(q, .inr (2, [.null, .int 0, .int 0]))] H) (hD : va_D A [(q, .inr (2, [.null, .int 0, .int 0]))]) (hS : va_S A s.heap H locs) (hl : lv_has ls 1 [(0, .ref q)]) : W p l e rm_X2_init s m args below meth c H locs 0 0 (MQ below (va_Qv (fun (_ : Nat → Nat) => True) (fun u t => st_B D cy A ((fun (u : Nat → Nat) => [(q, .inr (2, [.ref (u 0), .int (-1), .int 0])), ((u 0), .inl (cy 1, 40, .inl (fun _ => 0)))]) u) t) A) args s 1 40 A) (F0 m 0 ls []) := by
  obtain ⟨hx, hb, hr, hml, hown, hts, hK, hlocks, hA⟩ := id C0
  refine lv_aload_n hx hb dX2_init_0 rfl (lv_at hl 0 rfl) ?_
  refine W.objInit hx hb hown (hts _ (List.mem_cons_of_mem _ k_189)) (hts _ (List.mem_cons_of_mem _ k_23)) (hts _ (List.mem_cons_of_mem _ k_24)) rfl (by rw [hml]; exact hl.1) rfl dX2_init_1 (Nat.le_of_ble_eq_true rfl) (Nat.le_of_ble_eq_true rfl) ?_
  refine W.eq (g2 := F0 m 4 ls []) rfl ?_
  refine lv_aload_n hx hb dX2_init_4 rfl (lv_at hl 0 rfl) ?_
  refine lv_bipush (v := 40) hx hb dX2_init_5 (by decide) ?_
  refine va_newa (atype := .int) (ty := .int) (a0 := (40, .inl (fun _ => 0))) hx hb (hts _ (List.mem_cons_of_mem _ k_82)) rfl hK.1 hP hD hS hA (fun _ => rfl) (by decide) rfl (by decide) (by decide) (by decide) dX2_init_7 (fun q1 cA H hK1 hP hD hS => ?_)
  obtain rfl := cy_i hK1
  have hP : va_P D vwCl [(q, .inr (2, [.null, .int 0, .int 0])), (q1, .inl (cy 1, 40, .inl (fun _ => 0)))] H := hP
  have hD : va_D A [(q, .inr (2, [.null, .int 0, .int 0])), (q1, .inl (cy 1, 40, .inl (fun _ => 0)))] := hD
  refine W.widen (k := 1) (n := 40) (by omega) (by omega) ?_
  refine va_putF (D := D) (ci := 2) (v := .ref q1) (ty := .array .int) (C := RX2) (T := TX2) (N := 3) hx hb hts (fun w hw => List.mem_cons_of_mem _ (uw_X2 w hw)) tyX2 tyX2_ok nmX2 hown hK.1 hP hD hS 0 rfl rfl 0 (by decide) (hts _ (List.mem_cons_of_mem _ k_190)) (fun _ h9 => h9) rfl hin rfl (by decide +kernel) rfl rfl (Nat.le_of_ble_eq_true rfl) dX2_init_9 (fun H locs hP hD hS => ?_)
  have hP : va_P D vwCl [(q, .inr (2, [.ref q1, .int 0, .int 0])), (q1, .inl (cy 1, 40, .inl (fun _ => 0)))] H := hP
  have hD : va_D A [(q, .inr (2, [.ref q1, .int 0, .int 0])), (q1, .inl (cy 1, 40, .inl (fun _ => 0)))] := hD
  refine lv_aload_n hx hb dX2_init_12 rfl (lv_at hl 0 rfl) ?_
  refine lv_iconst (v := (-1)) hx hb dX2_init_13 (by decide) ?_
  refine va_put (D := D) (ci := 2) (v := .int (-1)) (ty := .int) (C := RX2) (T := TX2) (N := 3) hx hb hts (fun w hw => List.mem_cons_of_mem _ (uw_X2 w hw)) tyX2 tyX2_ok nmX2 hown hK.1 hP hD hS 0 rfl rfl 1 (by decide) (hts _ (List.mem_cons_of_mem _ k_192)) (fun _ h9 => h9) rfl (by decide +kernel) rfl rfl (Nat.le_of_ble_eq_true rfl) dX2_init_14 (fun H locs hP hD hS => ?_)
  have hP : va_P D vwCl [(q, .inr (2, [.ref q1, .int (-1), .int 0])), (q1, .inl (cy 1, 40, .inl (fun _ => 0)))] H := hP
  have hD : va_D A [(q, .inr (2, [.ref q1, .int (-1), .int 0])), (q1, .inl (cy 1, 40, .inl (fun _ => 0)))] := hD
  have hEnd : True := trivial
  have hP : va_P D vwCl ((fun (u : Nat → Nat) => [(q, .inr (2, [.ref (u 0), .int (-1), .int 0])), ((u 0), .inl (cy 1, 40, .inl (fun _ => 0)))]) (fun k => [q1].getD k 0)) H := hP
  have hD : va_D A ((fun (u : Nat → Nat) => [(q, .inr (2, [.ref (u 0), .int (-1), .int 0])), ((u 0), .inl (cy 1, 40, .inl (fun _ => 0)))]) (fun k => [q1].getD k 0)) := hD
  exact W.vret hx hb hr (fun tt ht hW => ⟨⟨fun k => [q1].getD k 0, rfl, trivial, by rw [ht]; exact hP, kk_warm hW hK, hD⟩, hS.F ht⟩) hS.2.2 dX2_init_17
set_option maxHeartbeats 4000000 in
set_option maxRecDepth 100000 in
theorem c_X2_init (l : Launch) (D : va_G) (cy : Nat → ClassId) (sz : Nat) (q : Nat) : cc_v l yX2_init (.code yX2_init cX2_init 1 (none) :: wg_L) rm_X2_init D cy sz [(q, .inr (2, [.null, .int 0, .int 0]))] [.ref q] (fun (u : Nat → Nat) => [(q, .inr (2, [.ref (u 0), .int (-1), .int 0])), ((u 0), .inl (cy 1, 40, .inl (fun _ => 0)))]) 1 40 := by
  refine Met.ofW (cc := cX2_init) (maxL := 1) (ret := none) (by decide) rfl ?_
  intro p e s m args below meth c s₁ B hml hv
  obtain ⟨rfl, hsz, hP, hK, hD0⟩ := hv
  subst hsz
  have hD := hD0.self (sz := s.heap.size)
  have hl := lv_entry ([.ref q]) (n := 1) (Nat.le_of_ble_eq_true rfl)
  rw [lg_entry_eq]
  have C0 : cx_C cX2_init (none) 1 RX2 (.code yX2_init cX2_init 1 (none) :: wg_L) p s m ([.ref q] : List Value).toArray meth c D cy (va_A [(q, .inr (2, [.null, .int 0, .int 0]))] s.heap.size) := ⟨B.exec, B.bytes, B.returns, hml, findClass_of_methodNamed B.named, atoms_spec (ws := (.code yX2_init cX2_init 1 (none) :: wg_L)) B.pre, hK, B.notSynchronized, fun q h => Or.inr h⟩
  exact b_X2_init C0 (name_of_methodNamed B.named B.method).1 hP hD va_S.rf (lv_sub hl [0] rfl)
/-! ### BarrowGrief$Tape.<init> -/
abbrev rm_X4_init : Room := { frames := 1, cells := 1, slots := 160, locals := 12 }
set_option maxHeartbeats 8000000 in
set_option maxRecDepth 100000 in
theorem b_X4_init {p : Program} {l : Launch} {e : Env} {s : State} {m : MethodId} {args : Array Value} {below : List Frame} {meth : Method} {c : Code} {D : va_G} {cy : Nat → ClassId} {A : Nat → Prop} {q : Nat} (C0 : cx_C cX4_init (none) 1 RX4 (.code yX4_init cX4_init 1 (none) :: wg_L) p s m args meth c D cy A) (hin : meth.name = "<init>") {H : Heap} {locs : List Loc} {ls : Array Slot} (hP : va_P D vwCl [(q, .inr (4, [.null, .int 0, .int 0, .int 0, .int 0, .int 0]))] H) (hD : va_D A [(q, .inr (4, [.null, .int 0, .int 0, .int 0, .int 0, .int 0]))]) (hS : va_S A s.heap H locs) (hl : lv_has ls 1 [(0, .ref q)]) : W p l e rm_X4_init s m args below meth c H locs 0 0 (MQ below (va_Qv (fun (_ : Nat → Nat) => True) (fun u t => st_B D cy A ((fun (u : Nat → Nat) => [(q, .inr (4, [.ref (u 0), .int 0, .int 0, .int 0, .int 0, .int 0])), ((u 0), .inl (cy 0, 160, .inl (fun _ => 0)))]) u) t) A) args s 1 160 A) (F0 m 0 ls []) := by
  obtain ⟨hx, hb, hr, hml, hown, hts, hK, hlocks, hA⟩ := id C0
  refine lv_aload_n hx hb dX4_init_0 rfl (lv_at hl 0 rfl) ?_
  refine W.objInit hx hb hown (hts _ (List.mem_cons_of_mem _ k_113)) (hts _ (List.mem_cons_of_mem _ k_23)) (hts _ (List.mem_cons_of_mem _ k_24)) rfl (by rw [hml]; exact hl.1) rfl dX4_init_1 (Nat.le_of_ble_eq_true rfl) (Nat.le_of_ble_eq_true rfl) ?_
  refine W.eq (g2 := F0 m 4 ls []) rfl ?_
  refine lv_aload_n hx hb dX4_init_4 rfl (lv_at hl 0 rfl) ?_
  refine lv_sipush (v := 160) hx hb dX4_init_5 (by decide) ?_
  refine va_newa (atype := .byte) (ty := .byte) (a0 := (160, .inl (fun _ => 0))) hx hb (hts _ (List.mem_cons_of_mem _ k_140)) rfl hK.1 hP hD hS hA (fun _ => rfl) (by decide) rfl (by decide) (by decide) (by decide) dX4_init_8 (fun q1 cA H hK1 hP hD hS => ?_)
  obtain rfl := cy_b hK1
  have hP : va_P D vwCl [(q, .inr (4, [.null, .int 0, .int 0, .int 0, .int 0, .int 0])), (q1, .inl (cy 0, 160, .inl (fun _ => 0)))] H := hP
  have hD : va_D A [(q, .inr (4, [.null, .int 0, .int 0, .int 0, .int 0, .int 0])), (q1, .inl (cy 0, 160, .inl (fun _ => 0)))] := hD
  refine W.widen (k := 1) (n := 160) (by omega) (by omega) ?_
  refine va_putF (D := D) (ci := 4) (v := .ref q1) (ty := .array .byte) (C := RX4) (T := TX4) (N := 6) hx hb hts (fun w hw => List.mem_cons_of_mem _ (uw_X4 w hw)) tyX4 tyX4_ok nmX4 hown hK.1 hP hD hS 0 rfl rfl 0 (by decide) (hts _ (List.mem_cons_of_mem _ k_114)) (fun _ h9 => h9) rfl hin rfl (by decide +kernel) rfl rfl (Nat.le_of_ble_eq_true rfl) dX4_init_10 (fun H locs hP hD hS => ?_)
  have hP : va_P D vwCl [(q, .inr (4, [.ref q1, .int 0, .int 0, .int 0, .int 0, .int 0])), (q1, .inl (cy 0, 160, .inl (fun _ => 0)))] H := hP
  have hD : va_D A [(q, .inr (4, [.ref q1, .int 0, .int 0, .int 0, .int 0, .int 0])), (q1, .inl (cy 0, 160, .inl (fun _ => 0)))] := hD
  have hEnd : True := trivial
  have hP : va_P D vwCl ((fun (u : Nat → Nat) => [(q, .inr (4, [.ref (u 0), .int 0, .int 0, .int 0, .int 0, .int 0])), ((u 0), .inl (cy 0, 160, .inl (fun _ => 0)))]) (fun k => [q1].getD k 0)) H := hP
  have hD : va_D A ((fun (u : Nat → Nat) => [(q, .inr (4, [.ref (u 0), .int 0, .int 0, .int 0, .int 0, .int 0])), ((u 0), .inl (cy 0, 160, .inl (fun _ => 0)))]) (fun k => [q1].getD k 0)) := hD
  exact W.vret hx hb hr (fun tt ht hW => ⟨⟨fun k => [q1].getD k 0, rfl, trivial, by rw [ht]; exact hP, kk_warm hW hK, hD⟩, hS.F ht⟩) hS.2.2 dX4_init_13
set_option maxHeartbeats 4000000 in
set_option maxRecDepth 100000 in
theorem c_X4_init (l : Launch) (D : va_G) (cy : Nat → ClassId) (sz : Nat) (q : Nat) : cc_v l yX4_init (.code yX4_init cX4_init 1 (none) :: wg_L) rm_X4_init D cy sz [(q, .inr (4, [.null, .int 0, .int 0, .int 0, .int 0, .int 0]))] [.ref q] (fun (u : Nat → Nat) => [(q, .inr (4, [.ref (u 0), .int 0, .int 0, .int 0, .int 0, .int 0])), ((u 0), .inl (cy 0, 160, .inl (fun _ => 0)))]) 1 160 := by
  refine Met.ofW (cc := cX4_init) (maxL := 1) (ret := none) (by decide) rfl ?_
  intro p e s m args below meth c s₁ B hml hv
  obtain ⟨rfl, hsz, hP, hK, hD0⟩ := hv
  subst hsz
  have hD := hD0.self (sz := s.heap.size)
  have hl := lv_entry ([.ref q]) (n := 1) (Nat.le_of_ble_eq_true rfl)
  rw [lg_entry_eq]
  have C0 : cx_C cX4_init (none) 1 RX4 (.code yX4_init cX4_init 1 (none) :: wg_L) p s m ([.ref q] : List Value).toArray meth c D cy (va_A [(q, .inr (4, [.null, .int 0, .int 0, .int 0, .int 0, .int 0]))] s.heap.size) := ⟨B.exec, B.bytes, B.returns, hml, findClass_of_methodNamed B.named, atoms_spec (ws := (.code yX4_init cX4_init 1 (none) :: wg_L)) B.pre, hK, B.notSynchronized, fun q h => Or.inr h⟩
  exact b_X4_init C0 (name_of_methodNamed B.named B.method).1 hP hD va_S.rf (lv_sub hl [0] rfl)
/-! ### BarrowGrief$Reader.<init> -/
abbrev rm_X1_init : Room := { frames := 1, cells := 0, slots := 0, locals := 12 }
set_option maxHeartbeats 8000000 in
set_option maxRecDepth 100000 in
theorem b_X1_init {p : Program} {l : Launch} {e : Env} {s : State} {m : MethodId} {args : Array Value} {below : List Frame} {meth : Method} {c : Code} {D : va_G} {cy : Nat → ClassId} {A : Nat → Prop} {q : Nat} {r1 : Nat} {r2 : Nat} (C0 : cx_C cX1_init (none) 3 RX1 (.code yX1_init cX1_init 3 (none) :: wg_L) p s m args meth c D cy A) (hin : meth.name = "<init>") {H : Heap} {locs : List Loc} {ls : Array Slot} (hP : va_P D vwCl [(q, .inr (1, [.null, .null, .int 0, .int 0, .int 0]))] H) (hD : va_D A [(q, .inr (1, [.null, .null, .int 0, .int 0, .int 0]))]) (hS : va_S A s.heap H locs) (hl : lv_has ls 3 [(0, .ref q), (1, .ref r1), (2, .ref r2)]) : W p l e rm_X1_init s m args below meth c H locs 0 0 (MQ below (va_Qv (fun (_ : Nat → Nat) => True) (fun u t => st_B D cy A ((fun (u : Nat → Nat) => [(q, .inr (1, [.ref r1, .ref r2, .int 0, .int 0, .int 0]))]) u) t) A) args s 0 0 A) (F0 m 0 ls []) := by
  obtain ⟨hx, hb, hr, hml, hown, hts, hK, hlocks, hA⟩ := id C0
  refine lv_aload_n hx hb dX1_init_0 rfl (lv_at hl 0 rfl) ?_
  refine W.objInit hx hb hown (hts _ (List.mem_cons_of_mem _ k_146)) (hts _ (List.mem_cons_of_mem _ k_23)) (hts _ (List.mem_cons_of_mem _ k_24)) rfl (by rw [hml]; exact hl.1) rfl dX1_init_1 (Nat.le_of_ble_eq_true rfl) (Nat.le_of_ble_eq_true rfl) ?_
  refine W.eq (g2 := F0 m 4 ls []) rfl ?_
  refine lv_aload_n hx hb dX1_init_4 rfl (lv_at hl 0 rfl) ?_
  refine lv_aload_n hx hb dX1_init_5 rfl (lv_at hl 1 rfl) ?_
  refine va_putF (D := D) (ci := 1) (v := .ref r1) (ty := .object "BarrowGrief$Tape") (C := RX1) (T := TX1) (N := 5) hx hb hts (fun w hw => List.mem_cons_of_mem _ (uw_X1 w hw)) tyX1 tyX1_ok nmX1 hown hK.1 hP hD hS 0 rfl rfl 0 (by decide) (hts _ (List.mem_cons_of_mem _ k_147)) (fun _ h9 => h9) rfl hin rfl (by decide +kernel) rfl rfl (Nat.le_of_ble_eq_true rfl) dX1_init_6 (fun H locs hP hD hS => ?_)
  have hP : va_P D vwCl [(q, .inr (1, [.ref r1, .null, .int 0, .int 0, .int 0]))] H := hP
  have hD : va_D A [(q, .inr (1, [.ref r1, .null, .int 0, .int 0, .int 0]))] := hD
  refine lv_aload_n hx hb dX1_init_9 rfl (lv_at hl 0 rfl) ?_
  refine lv_aload_n hx hb dX1_init_10 rfl (lv_at hl 2 rfl) ?_
  refine va_putF (D := D) (ci := 1) (v := .ref r2) (ty := .object "BarrowGrief$World") (C := RX1) (T := TX1) (N := 5) hx hb hts (fun w hw => List.mem_cons_of_mem _ (uw_X1 w hw)) tyX1 tyX1_ok nmX1 hown hK.1 hP hD hS 0 rfl rfl 1 (by decide) (hts _ (List.mem_cons_of_mem _ k_148)) (fun _ h9 => h9) rfl hin rfl (by decide +kernel) rfl rfl (Nat.le_of_ble_eq_true rfl) dX1_init_11 (fun H locs hP hD hS => ?_)
  have hP : va_P D vwCl [(q, .inr (1, [.ref r1, .ref r2, .int 0, .int 0, .int 0]))] H := hP
  have hD : va_D A [(q, .inr (1, [.ref r1, .ref r2, .int 0, .int 0, .int 0]))] := hD
  have hEnd : True := trivial
  have hP : va_P D vwCl ((fun (u : Nat → Nat) => [(q, .inr (1, [.ref r1, .ref r2, .int 0, .int 0, .int 0]))]) (fun k => [].getD k 0)) H := hP
  have hD : va_D A ((fun (u : Nat → Nat) => [(q, .inr (1, [.ref r1, .ref r2, .int 0, .int 0, .int 0]))]) (fun k => [].getD k 0)) := hD
  exact W.vret hx hb hr (fun tt ht hW => ⟨⟨fun k => [].getD k 0, rfl, trivial, by rw [ht]; exact hP, kk_warm hW hK, hD⟩, hS.F ht⟩) hS.2.2 dX1_init_14
set_option maxHeartbeats 4000000 in
set_option maxRecDepth 100000 in
theorem c_X1_init (l : Launch) (D : va_G) (cy : Nat → ClassId) (sz : Nat) (q : Nat) (r1 : Nat) (r2 : Nat) : cc_v l yX1_init (.code yX1_init cX1_init 3 (none) :: wg_L) rm_X1_init D cy sz [(q, .inr (1, [.null, .null, .int 0, .int 0, .int 0]))] [.ref q, .ref r1, .ref r2] (fun (u : Nat → Nat) => [(q, .inr (1, [.ref r1, .ref r2, .int 0, .int 0, .int 0]))]) 0 0 := by
  refine Met.ofW (cc := cX1_init) (maxL := 3) (ret := none) (by decide) rfl ?_
  intro p e s m args below meth c s₁ B hml hv
  obtain ⟨rfl, hsz, hP, hK, hD0⟩ := hv
  subst hsz
  have hD := hD0.self (sz := s.heap.size)
  have hl := lv_entry ([.ref q, .ref r1, .ref r2]) (n := 3) (Nat.le_of_ble_eq_true rfl)
  rw [lg_entry_eq]
  have C0 : cx_C cX1_init (none) 3 RX1 (.code yX1_init cX1_init 3 (none) :: wg_L) p s m ([.ref q, .ref r1, .ref r2] : List Value).toArray meth c D cy (va_A [(q, .inr (1, [.null, .null, .int 0, .int 0, .int 0]))] s.heap.size) := ⟨B.exec, B.bytes, B.returns, hml, findClass_of_methodNamed B.named, atoms_spec (ws := (.code yX1_init cX1_init 3 (none) :: wg_L)) B.pre, hK, B.notSynchronized, fun q h => Or.inr h⟩
  exact b_X1_init C0 (name_of_methodNamed B.named B.method).1 hP hD va_S.rf (lv_sub hl [0, 1, 2] rfl)
/-! ### BarrowGrief$Image.<init> -/
abbrev rm_X0_init : Room := { frames := 2, cells := 9, slots := 56, locals := 32 }
set_option maxHeartbeats 8000000 in
set_option maxRecDepth 100000 in
theorem b_X0_init {p : Program} {l : Launch} {e : Env} {s : State} {m : MethodId} {args : Array Value} {below : List Frame} {meth : Method} {c : Code} {D : va_G} {cy : Nat → ClassId} {A : Nat → Prop} {q : Nat} (C0 : cx_C cX0_init (none) 1 RX0 (.code yX0_init cX0_init 1 (none) :: wg_L) p s m args meth c D cy A) (hin : meth.name = "<init>") (N0 : n0_A s) {H : Heap} {locs : List Loc} {ls : Array Slot} (hP : va_P D vwCl [(q, .inr (0, [.null, .null, .int 0]))] H) (hD : va_D A [(q, .inr (0, [.null, .null, .int 0]))]) (hS : va_S A s.heap H locs) (hl : lv_has ls 1 [(0, .ref q)]) : W p l e rm_X0_init s m args below meth c H locs 0 0 (MQ below (va_Qv (fun (_ : Nat → Nat) => True) (fun u t => st_B D cy A ((fun (u : Nat → Nat) => [(q, .inr (0, [.ref (u 0), .ref (u 5), .int 0])), ((u 0), .inr (5, [.ref (u 1), .ref (u 2), .ref (u 3), .ref (u 4), .int 0, .int 0, .int 30, .int 0, .int 0, .int 0, .int 0])), ((u 1), .inl (cy 1, 5, .inl (fun _ => 0))), ((u 2), .inl (cy 1, 5, .inl (fun _ => 0))), ((u 3), .inl (cy 1, 5, .inl (fun _ => 0))), ((u 4), .inl (cy 1, 8, .inl (fun _ => 0))), ((u 5), .inr (3, [.ref (u 6), .ref (u 7), .ref (u 8), .int 0])), ((u 6), .inl (cy 1, 6, .inl (fun _ => 0))), ((u 7), .inl (cy 1, 6, .inl (fun _ => 0))), ((u 8), .inl (cy 1, 6, .inl (fun _ => 0)))]) u) t) A) args s 9 56 A) (F0 m 0 ls []) := by
  obtain ⟨hx, hb, hr, hml, hown, hts, hK, hlocks, hA⟩ := id C0
  refine lv_aload_n hx hb dX0_init_0 rfl (lv_at hl 0 rfl) ?_
  refine W.objInit hx hb hown (hts _ (List.mem_cons_of_mem _ k_168)) (hts _ (List.mem_cons_of_mem _ k_23)) (hts _ (List.mem_cons_of_mem _ k_24)) rfl (by rw [hml]; exact hl.1) rfl dX0_init_1 (Nat.le_of_ble_eq_true rfl) (Nat.le_of_ble_eq_true rfl) ?_
  refine W.eq (g2 := F0 m 4 ls []) rfl ?_
  refine lv_aload_n hx hb dX0_init_4 rfl (lv_at hl 0 rfl) ?_
  refine va_new (ci := 5) (fs := [.null, .null, .null, .null, .int 0, .int 0, .int 0, .int 0, .int 0, .int 0, .int 0]) (C := RX5) (T := TX5) (N := 11) hx hb hts (fun w hw => List.mem_cons_of_mem _ (uw_X5 w hw)) tyX5 tyX5_ok hown (hts _ (List.mem_cons_of_mem _ k_169)) (hts _ (List.mem_cons_of_mem _ k_26)) (hts _ (List.mem_cons_of_mem _ k_2)) hK.1 hP hD hS hA rfl (fun j hj => by rcases (show j = 0 ∨ j = 1 ∨ j = 2 ∨ j = 3 ∨ j = 4 ∨ j = 5 ∨ j = 6 ∨ j = 7 ∨ j = 8 ∨ j = 9 ∨ j = 10 by omega) with rfl | rfl | rfl | rfl | rfl | rfl | rfl | rfl | rfl | rfl | rfl <;> rfl) (by decide) (by decide) dX0_init_5 (fun q1 H hP hD hS => ?_)
  have hP : va_P D vwCl [(q, .inr (0, [.null, .null, .int 0])), (q1, .inr (5, [.null, .null, .null, .null, .int 0, .int 0, .int 0, .int 0, .int 0, .int 0, .int 0]))] H := hP
  have hD : va_D A [(q, .inr (0, [.null, .null, .int 0])), (q1, .inr (5, [.null, .null, .null, .null, .int 0, .int 0, .int 0, .int 0, .int 0, .int 0, .int 0]))] := hD
  refine W.widen (k := 1) (n := 11) (by omega) (by omega) ?_
  refine lv_dup hx hb dX0_init_8 rfl ?_
  have hPc := hP.sub (ws' := [(q1, .inr (5, [.null, .null, .null, .null, .int 0, .int 0, .int 0, .int 0, .int 0, .int 0, .int 0]))]) [1] rfl
  have hDc := hD.sub (ws' := [(q1, .inr (5, [.null, .null, .null, .null, .int 0, .int 0, .int 0, .int 0, .int 0, .int 0, .int 0]))]) [1] (by decide) rfl
  refine cl_c (fun (u : Nat → Nat) => [(q, .inr (0, [.null, .null, .int 0])), (q1, .inr (5, [.ref (u 0), .ref (u 1), .ref (u 2), .ref (u 3), .int 0, .int 0, .int 30, .int 0, .int 0, .int 0, .int 0])), ((u 0), .inl (cy 1, 5, .inl (fun _ => 0))), ((u 1), .inl (cy 1, 5, .inl (fun _ => 0))), ((u 2), .inl (cy 1, 5, .inl (fun _ => 0))), ((u 3), .inl (cy 1, 8, .inl (fun _ => 0)))]) (va_runIN (As := []) (rest := [.ref q1, .ref q]) ⟨hx, hb, hml, hown, hts⟩ (c_X5_init l D cy H.size q1) ⟨va_cnB 0 hts (wg_in k_29) rfl rfl rfl N0.1 (hts _ (List.mem_cons_of_mem _ k_2)) (by decide +kernel) ⟨by decide, by decide⟩, rfl, (hts _ (List.mem_cons_of_mem _ k_28))⟩ ⟨st_blind, fun U hU hW => st_pre hK hPc hDc hU hW⟩ rfl rfl hl.1 rfl (lv_room (Nat.le_of_ble_eq_true rfl)) dX0_init_9 ⟨by decide, by decide⟩) hP hD hS hA [1] [0] [0, 1, 2, 3, 4, 5] rfl rfl (by decide) (by decide) (by decide) (fun _ => rfl) (fun u2 H locs _ hP hD hS => ?_)
  have hP : va_P D vwCl [(q, .inr (0, [.null, .null, .int 0])), (q1, .inr (5, [.ref (u2 0), .ref (u2 1), .ref (u2 2), .ref (u2 3), .int 0, .int 0, .int 30, .int 0, .int 0, .int 0, .int 0])), ((u2 0), .inl (cy 1, 5, .inl (fun _ => 0))), ((u2 1), .inl (cy 1, 5, .inl (fun _ => 0))), ((u2 2), .inl (cy 1, 5, .inl (fun _ => 0))), ((u2 3), .inl (cy 1, 8, .inl (fun _ => 0)))] H := hP
  have hD : va_D A [(q, .inr (0, [.null, .null, .int 0])), (q1, .inr (5, [.ref (u2 0), .ref (u2 1), .ref (u2 2), .ref (u2 3), .int 0, .int 0, .int 30, .int 0, .int 0, .int 0, .int 0])), ((u2 0), .inl (cy 1, 5, .inl (fun _ => 0))), ((u2 1), .inl (cy 1, 5, .inl (fun _ => 0))), ((u2 2), .inl (cy 1, 5, .inl (fun _ => 0))), ((u2 3), .inl (cy 1, 8, .inl (fun _ => 0)))] := hD
  refine W.widen (k := 5) (n := 34) (by omega) (by omega) ?_
  refine va_putF (D := D) (ci := 0) (v := .ref q1) (ty := .object "BarrowGrief$World") (C := RX0) (T := TX0) (N := 3) hx hb hts (fun w hw => List.mem_cons_of_mem _ (uw_X0 w hw)) tyX0 tyX0_ok nmX0 hown hK.1 hP hD hS 0 rfl rfl 0 (by decide) (hts _ (List.mem_cons_of_mem _ k_173)) (fun _ h9 => h9) rfl hin rfl (by decide +kernel) rfl rfl (Nat.le_of_ble_eq_true rfl) dX0_init_12 (fun H locs hP hD hS => ?_)
  have hP : va_P D vwCl [(q, .inr (0, [.ref q1, .null, .int 0])), (q1, .inr (5, [.ref (u2 0), .ref (u2 1), .ref (u2 2), .ref (u2 3), .int 0, .int 0, .int 30, .int 0, .int 0, .int 0, .int 0])), ((u2 0), .inl (cy 1, 5, .inl (fun _ => 0))), ((u2 1), .inl (cy 1, 5, .inl (fun _ => 0))), ((u2 2), .inl (cy 1, 5, .inl (fun _ => 0))), ((u2 3), .inl (cy 1, 8, .inl (fun _ => 0)))] H := hP
  have hD : va_D A [(q, .inr (0, [.ref q1, .null, .int 0])), (q1, .inr (5, [.ref (u2 0), .ref (u2 1), .ref (u2 2), .ref (u2 3), .int 0, .int 0, .int 30, .int 0, .int 0, .int 0, .int 0])), ((u2 0), .inl (cy 1, 5, .inl (fun _ => 0))), ((u2 1), .inl (cy 1, 5, .inl (fun _ => 0))), ((u2 2), .inl (cy 1, 5, .inl (fun _ => 0))), ((u2 3), .inl (cy 1, 8, .inl (fun _ => 0)))] := hD
  refine lv_aload_n hx hb dX0_init_15 rfl (lv_at hl 0 rfl) ?_
  refine va_new (ci := 3) (fs := [.null, .null, .null, .int 0]) (C := RX3) (T := TX3) (N := 4) hx hb hts (fun w hw => List.mem_cons_of_mem _ (uw_X3 w hw)) tyX3 tyX3_ok hown (hts _ (List.mem_cons_of_mem _ k_171)) (hts _ (List.mem_cons_of_mem _ k_85)) (hts _ (List.mem_cons_of_mem _ k_3)) hK.1 hP hD hS hA rfl (fun j hj => by rcases (show j = 0 ∨ j = 1 ∨ j = 2 ∨ j = 3 by omega) with rfl | rfl | rfl | rfl <;> rfl) (by decide) (by decide) dX0_init_16 (fun q3 H hP hD hS => ?_)
  have hP : va_P D vwCl [(q, .inr (0, [.ref q1, .null, .int 0])), (q1, .inr (5, [.ref (u2 0), .ref (u2 1), .ref (u2 2), .ref (u2 3), .int 0, .int 0, .int 30, .int 0, .int 0, .int 0, .int 0])), ((u2 0), .inl (cy 1, 5, .inl (fun _ => 0))), ((u2 1), .inl (cy 1, 5, .inl (fun _ => 0))), ((u2 2), .inl (cy 1, 5, .inl (fun _ => 0))), ((u2 3), .inl (cy 1, 8, .inl (fun _ => 0))), (q3, .inr (3, [.null, .null, .null, .int 0]))] H := hP
  have hD : va_D A [(q, .inr (0, [.ref q1, .null, .int 0])), (q1, .inr (5, [.ref (u2 0), .ref (u2 1), .ref (u2 2), .ref (u2 3), .int 0, .int 0, .int 30, .int 0, .int 0, .int 0, .int 0])), ((u2 0), .inl (cy 1, 5, .inl (fun _ => 0))), ((u2 1), .inl (cy 1, 5, .inl (fun _ => 0))), ((u2 2), .inl (cy 1, 5, .inl (fun _ => 0))), ((u2 3), .inl (cy 1, 8, .inl (fun _ => 0))), (q3, .inr (3, [.null, .null, .null, .int 0]))] := hD
  refine W.widen (k := 6) (n := 38) (by omega) (by omega) ?_
  refine lv_dup hx hb dX0_init_19 rfl ?_
  have hPc := hP.sub (ws' := [(q3, .inr (3, [.null, .null, .null, .int 0]))]) [6] rfl
  have hDc := hD.sub (ws' := [(q3, .inr (3, [.null, .null, .null, .int 0]))]) [6] (by decide) rfl
  refine cl_c (fun (u : Nat → Nat) => [(q, .inr (0, [.ref q1, .null, .int 0])), (q1, .inr (5, [.ref (u2 0), .ref (u2 1), .ref (u2 2), .ref (u2 3), .int 0, .int 0, .int 30, .int 0, .int 0, .int 0, .int 0])), ((u2 0), .inl (cy 1, 5, .inl (fun _ => 0))), ((u2 1), .inl (cy 1, 5, .inl (fun _ => 0))), ((u2 2), .inl (cy 1, 5, .inl (fun _ => 0))), ((u2 3), .inl (cy 1, 8, .inl (fun _ => 0))), (q3, .inr (3, [.ref (u 0), .ref (u 1), .ref (u 2), .int 0])), ((u 0), .inl (cy 1, 6, .inl (fun _ => 0))), ((u 1), .inl (cy 1, 6, .inl (fun _ => 0))), ((u 2), .inl (cy 1, 6, .inl (fun _ => 0)))]) (va_runIN (As := []) (rest := [.ref q3, .ref q]) ⟨hx, hb, hml, hown, hts⟩ (c_X3_init l D cy H.size q3) ⟨va_cnB 0 hts (wg_in k_88) rfl rfl rfl N0.2 (hts _ (List.mem_cons_of_mem _ k_3)) (by decide +kernel) ⟨by decide, by decide⟩, rfl, (hts _ (List.mem_cons_of_mem _ k_87))⟩ ⟨st_blind, fun U hU hW => st_pre hK hPc hDc hU hW⟩ rfl rfl hl.1 rfl (lv_room (Nat.le_of_ble_eq_true rfl)) dX0_init_20 ⟨by decide, by decide⟩) hP hD hS hA [6] [0, 1, 2, 3, 4, 5] [0, 1, 2, 3, 4, 5, 6, 7, 8, 9] rfl rfl (by decide) (by decide) (by decide) (fun _ => rfl) (fun u4 H locs _ hP hD hS => ?_)
  have hP : va_P D vwCl [(q, .inr (0, [.ref q1, .null, .int 0])), (q1, .inr (5, [.ref (u2 0), .ref (u2 1), .ref (u2 2), .ref (u2 3), .int 0, .int 0, .int 30, .int 0, .int 0, .int 0, .int 0])), ((u2 0), .inl (cy 1, 5, .inl (fun _ => 0))), ((u2 1), .inl (cy 1, 5, .inl (fun _ => 0))), ((u2 2), .inl (cy 1, 5, .inl (fun _ => 0))), ((u2 3), .inl (cy 1, 8, .inl (fun _ => 0))), (q3, .inr (3, [.ref (u4 0), .ref (u4 1), .ref (u4 2), .int 0])), ((u4 0), .inl (cy 1, 6, .inl (fun _ => 0))), ((u4 1), .inl (cy 1, 6, .inl (fun _ => 0))), ((u4 2), .inl (cy 1, 6, .inl (fun _ => 0)))] H := hP
  have hD : va_D A [(q, .inr (0, [.ref q1, .null, .int 0])), (q1, .inr (5, [.ref (u2 0), .ref (u2 1), .ref (u2 2), .ref (u2 3), .int 0, .int 0, .int 30, .int 0, .int 0, .int 0, .int 0])), ((u2 0), .inl (cy 1, 5, .inl (fun _ => 0))), ((u2 1), .inl (cy 1, 5, .inl (fun _ => 0))), ((u2 2), .inl (cy 1, 5, .inl (fun _ => 0))), ((u2 3), .inl (cy 1, 8, .inl (fun _ => 0))), (q3, .inr (3, [.ref (u4 0), .ref (u4 1), .ref (u4 2), .int 0])), ((u4 0), .inl (cy 1, 6, .inl (fun _ => 0))), ((u4 1), .inl (cy 1, 6, .inl (fun _ => 0))), ((u4 2), .inl (cy 1, 6, .inl (fun _ => 0)))] := hD
  refine W.widen (k := 9) (n := 56) (by omega) (by omega) ?_
  refine va_putF (D := D) (ci := 0) (v := .ref q3) (ty := .object "BarrowGrief$Sights") (C := RX0) (T := TX0) (N := 3) hx hb hts (fun w hw => List.mem_cons_of_mem _ (uw_X0 w hw)) tyX0 tyX0_ok nmX0 hown hK.1 hP hD hS 0 rfl rfl 1 (by decide) (hts _ (List.mem_cons_of_mem _ k_175)) (fun _ h9 => h9) rfl hin rfl (by decide +kernel) rfl rfl (Nat.le_of_ble_eq_true rfl) dX0_init_23 (fun H locs hP hD hS => ?_)
  have hP : va_P D vwCl [(q, .inr (0, [.ref q1, .ref q3, .int 0])), (q1, .inr (5, [.ref (u2 0), .ref (u2 1), .ref (u2 2), .ref (u2 3), .int 0, .int 0, .int 30, .int 0, .int 0, .int 0, .int 0])), ((u2 0), .inl (cy 1, 5, .inl (fun _ => 0))), ((u2 1), .inl (cy 1, 5, .inl (fun _ => 0))), ((u2 2), .inl (cy 1, 5, .inl (fun _ => 0))), ((u2 3), .inl (cy 1, 8, .inl (fun _ => 0))), (q3, .inr (3, [.ref (u4 0), .ref (u4 1), .ref (u4 2), .int 0])), ((u4 0), .inl (cy 1, 6, .inl (fun _ => 0))), ((u4 1), .inl (cy 1, 6, .inl (fun _ => 0))), ((u4 2), .inl (cy 1, 6, .inl (fun _ => 0)))] H := hP
  have hD : va_D A [(q, .inr (0, [.ref q1, .ref q3, .int 0])), (q1, .inr (5, [.ref (u2 0), .ref (u2 1), .ref (u2 2), .ref (u2 3), .int 0, .int 0, .int 30, .int 0, .int 0, .int 0, .int 0])), ((u2 0), .inl (cy 1, 5, .inl (fun _ => 0))), ((u2 1), .inl (cy 1, 5, .inl (fun _ => 0))), ((u2 2), .inl (cy 1, 5, .inl (fun _ => 0))), ((u2 3), .inl (cy 1, 8, .inl (fun _ => 0))), (q3, .inr (3, [.ref (u4 0), .ref (u4 1), .ref (u4 2), .int 0])), ((u4 0), .inl (cy 1, 6, .inl (fun _ => 0))), ((u4 1), .inl (cy 1, 6, .inl (fun _ => 0))), ((u4 2), .inl (cy 1, 6, .inl (fun _ => 0)))] := hD
  have hEnd : True := trivial
  have hP : va_P D vwCl ((fun (u : Nat → Nat) => [(q, .inr (0, [.ref (u 0), .ref (u 5), .int 0])), ((u 0), .inr (5, [.ref (u 1), .ref (u 2), .ref (u 3), .ref (u 4), .int 0, .int 0, .int 30, .int 0, .int 0, .int 0, .int 0])), ((u 1), .inl (cy 1, 5, .inl (fun _ => 0))), ((u 2), .inl (cy 1, 5, .inl (fun _ => 0))), ((u 3), .inl (cy 1, 5, .inl (fun _ => 0))), ((u 4), .inl (cy 1, 8, .inl (fun _ => 0))), ((u 5), .inr (3, [.ref (u 6), .ref (u 7), .ref (u 8), .int 0])), ((u 6), .inl (cy 1, 6, .inl (fun _ => 0))), ((u 7), .inl (cy 1, 6, .inl (fun _ => 0))), ((u 8), .inl (cy 1, 6, .inl (fun _ => 0)))]) (fun k => [q1, (u2 0), (u2 1), (u2 2), (u2 3), q3, (u4 0), (u4 1), (u4 2)].getD k 0)) H := hP
  have hD : va_D A ((fun (u : Nat → Nat) => [(q, .inr (0, [.ref (u 0), .ref (u 5), .int 0])), ((u 0), .inr (5, [.ref (u 1), .ref (u 2), .ref (u 3), .ref (u 4), .int 0, .int 0, .int 30, .int 0, .int 0, .int 0, .int 0])), ((u 1), .inl (cy 1, 5, .inl (fun _ => 0))), ((u 2), .inl (cy 1, 5, .inl (fun _ => 0))), ((u 3), .inl (cy 1, 5, .inl (fun _ => 0))), ((u 4), .inl (cy 1, 8, .inl (fun _ => 0))), ((u 5), .inr (3, [.ref (u 6), .ref (u 7), .ref (u 8), .int 0])), ((u 6), .inl (cy 1, 6, .inl (fun _ => 0))), ((u 7), .inl (cy 1, 6, .inl (fun _ => 0))), ((u 8), .inl (cy 1, 6, .inl (fun _ => 0)))]) (fun k => [q1, (u2 0), (u2 1), (u2 2), (u2 3), q3, (u4 0), (u4 1), (u4 2)].getD k 0)) := hD
  exact W.vret hx hb hr (fun tt ht hW => ⟨⟨fun k => [q1, (u2 0), (u2 1), (u2 2), (u2 3), q3, (u4 0), (u4 1), (u4 2)].getD k 0, rfl, trivial, by rw [ht]; exact hP, kk_warm hW hK, hD⟩, hS.F ht⟩) hS.2.2 dX0_init_26
set_option maxHeartbeats 4000000 in
set_option maxRecDepth 100000 in
theorem c_X0_init (l : Launch) (D : va_G) (cy : Nat → ClassId) (sz : Nat) (q : Nat) : cn_v n0_A l yX0_init (.code yX0_init cX0_init 1 (none) :: wg_L) rm_X0_init D cy sz [(q, .inr (0, [.null, .null, .int 0]))] [.ref q] (fun (u : Nat → Nat) => [(q, .inr (0, [.ref (u 0), .ref (u 5), .int 0])), ((u 0), .inr (5, [.ref (u 1), .ref (u 2), .ref (u 3), .ref (u 4), .int 0, .int 0, .int 30, .int 0, .int 0, .int 0, .int 0])), ((u 1), .inl (cy 1, 5, .inl (fun _ => 0))), ((u 2), .inl (cy 1, 5, .inl (fun _ => 0))), ((u 3), .inl (cy 1, 5, .inl (fun _ => 0))), ((u 4), .inl (cy 1, 8, .inl (fun _ => 0))), ((u 5), .inr (3, [.ref (u 6), .ref (u 7), .ref (u 8), .int 0])), ((u 6), .inl (cy 1, 6, .inl (fun _ => 0))), ((u 7), .inl (cy 1, 6, .inl (fun _ => 0))), ((u 8), .inl (cy 1, 6, .inl (fun _ => 0)))]) 9 56 := by
  refine Met.ofW (cc := cX0_init) (maxL := 1) (ret := none) (by decide) rfl ?_
  intro p e s m args below meth c s₁ B hml hv
  obtain ⟨rfl, hsz, hP, hK, hD0, hN⟩ := hv
  subst hsz
  have hD := hD0.self (sz := s.heap.size)
  have hl := lv_entry ([.ref q]) (n := 1) (Nat.le_of_ble_eq_true rfl)
  rw [lg_entry_eq]
  have C0 : cx_C cX0_init (none) 1 RX0 (.code yX0_init cX0_init 1 (none) :: wg_L) p s m ([.ref q] : List Value).toArray meth c D cy (va_A [(q, .inr (0, [.null, .null, .int 0]))] s.heap.size) := ⟨B.exec, B.bytes, B.returns, hml, findClass_of_methodNamed B.named, atoms_spec (ws := (.code yX0_init cX0_init 1 (none) :: wg_L)) B.pre, hK, B.notSynchronized, fun q h => Or.inr h⟩
  exact b_X0_init C0 (name_of_methodNamed B.named B.method).1 hN hP hD va_S.rf (lv_sub hl [0] rfl)
