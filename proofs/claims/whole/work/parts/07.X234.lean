/-! ### BarrowGrief$Sights.become(LBarrowGrief$Sights;)V -/
abbrev wc_X3_become (cy : Nat → ClassId) (q_t q_t_behind q_t_who q_t_grief q_a1 q_a1_behind q_a1_who q_a1_grief : Nat) (w_t : s_V) (w_a1 : s_V) : va_W := [(q_t, .inr (3, [.ref q_t_behind, .ref q_t_who, .ref q_t_grief, .int w_t.1])), (q_t_behind, .inl (cy 1, 6, .inl w_t.2.1)), (q_t_who, .inl (cy 1, 6, .inl w_t.2.2.1)), (q_t_grief, .inl (cy 1, 6, .inl w_t.2.2.2)), (q_a1, .inr (3, [.ref q_a1_behind, .ref q_a1_who, .ref q_a1_grief, .int w_a1.1])), (q_a1_behind, .inl (cy 1, 6, .inl w_a1.2.1)), (q_a1_who, .inl (cy 1, 6, .inl w_a1.2.2.1)), (q_a1_grief, .inl (cy 1, 6, .inl w_a1.2.2.2))]
abbrev rm_X3_become : Room := { frames := 1, cells := 0, slots := 0, locals := 40 }
abbrev qq_X3_become (below : List Frame) (args : Array Value) (s : State) (D : va_G) (cy : Nat → ClassId) (A : Nat → Prop) (q_t : Nat) (q_t_behind : Nat) (q_t_who : Nat) (q_t_grief : Nat) (q_a1 : Nat) (q_a1_behind : Nat) (q_a1_who : Nat) (q_a1_grief : Nat) (w_a1 : s_V) (res : s_V) : State → Prop := MQ below (va_Qv (fun (u : s_V) => u = res) (fun u t => st_B D cy A ((fun (u : s_V) => wc_X3_become cy q_t q_t_behind q_t_who q_t_grief q_a1 q_a1_behind q_a1_who q_a1_grief u w_a1) u) t) A) args s 0 0 A
def B_X3_become_0  (w_a1 : s_V)  (w_t : s_V)  : Option (s_V) := some (w_a1.1, (va_cpy w_a1.2.1 w_t.2.1 (0 : Int32).toNatClampNeg (0 : Int32).toNatClampNeg (6 : Int32).toNatClampNeg), (va_cpy w_a1.2.2.1 w_t.2.2.1 (0 : Int32).toNatClampNeg (0 : Int32).toNatClampNeg (6 : Int32).toNatClampNeg), (va_cpy w_a1.2.2.2 w_t.2.2.2 (0 : Int32).toNatClampNeg (0 : Int32).toNatClampNeg (6 : Int32).toNatClampNeg))
set_option maxHeartbeats 4000000 in
set_option maxRecDepth 100000 in
theorem b_X3_become_0 {p : Program} {l : Launch} {e : Env} {s : State} {m : MethodId} {args : Array Value} {below : List Frame} {meth : Method} {c : Code} {D : va_G} {cy : Nat → ClassId} {A : Nat → Prop} {q_t : Nat} {q_t_behind : Nat} {q_t_who : Nat} {q_t_grief : Nat} {q_a1 : Nat} {q_a1_behind : Nat} {q_a1_who : Nat} {q_a1_grief : Nat} {w_a1 : s_V} {res : s_V}   {w_t : s_V}  (C0 : cx_C cX3_become (none) 2 RX3 (.code yX3_become cX3_become 2 (none) :: wg_L) p s m args meth c D cy A)  (h : B_X3_become_0 w_a1 w_t = some res) {H : Heap} {locs : List Loc} {ls : Array Slot} (hP : va_P D vwCl (wc_X3_become cy q_t q_t_behind q_t_who q_t_grief q_a1 q_a1_behind q_a1_who q_a1_grief w_t w_a1) H) (hD : va_D A (wc_X3_become cy q_t q_t_behind q_t_who q_t_grief q_a1 q_a1_behind q_a1_who q_a1_grief w_t w_a1)) (hS : va_S A s.heap H locs) (hl : lv_has ls 2 [(0, .ref q_t), (1, .ref q_a1)]) : W p l e rm_X3_become s m args below meth c H locs 0 0 (qq_X3_become below args s D cy A q_t q_t_behind q_t_who q_t_grief q_a1 q_a1_behind q_a1_who q_a1_grief w_a1 res) (F0 m 0 ls []) := by
  obtain ⟨hx, hb, hr, hml, hown, hts, hK, hlocks, hA⟩ := id C0
  unfold B_X3_become_0 at h
  refine lv_aload_n hx hb dX3_become_0 rfl (lv_at hl 1 rfl) ?_
  refine va_get (D := D) (ci := 3) (v := .ref q_a1_behind) (C := RX3) (T := TX3) (N := 4) hx hb hts (fun w hw => List.mem_cons_of_mem _ (uw_X3 w hw)) hown hK.1 hP 4 rfl rfl 0 (by decide) (hts _ (List.mem_cons_of_mem _ k_90)) (fun _ h9 => h9) rfl dX3_become_1 ?_
  refine lv_iconst (v := 0) hx hb dX3_become_4 (by decide) ?_
  refine lv_aload_n hx hb dX3_become_5 rfl (lv_at hl 0 rfl) ?_
  refine va_get (D := D) (ci := 3) (v := .ref q_t_behind) (C := RX3) (T := TX3) (N := 4) hx hb hts (fun w hw => List.mem_cons_of_mem _ (uw_X3 w hw)) hown hK.1 hP 0 rfl rfl 0 (by decide) (hts _ (List.mem_cons_of_mem _ k_90)) (fun _ h9 => h9) rfl dX3_become_6 ?_
  refine lv_iconst (v := 0) hx hb dX3_become_9 (by decide) ?_
  refine lv_bipush (v := 6) hx hb dX3_become_10 (by decide) ?_
  refine va_copyi (own := RX3) hx hb (by rw [hml]; exact hl.1.symm) hown (hts _ (List.mem_cons_of_mem _ k_643)) (hts _ (List.mem_cons_of_mem _ k_383)) (hts _ (List.mem_cons_of_mem _ k_382)) (hts _ (List.mem_cons_of_mem _ k_13)) hK.1 hP hD hS 5 1 1 1 rfl rfl rfl rfl rfl (by decide) (by decide) (by decide) (by decide) (by decide) (fun _ _ => rfl) (by decide) (by decide +kernel) dX3_become_12 (fun H locs hP hD hS => ?_)
  have hP : va_P D vwCl (wc_X3_become cy q_t q_t_behind q_t_who q_t_grief q_a1 q_a1_behind q_a1_who q_a1_grief (w_t.1, (va_cpy w_a1.2.1 w_t.2.1 (0 : Int32).toNatClampNeg (0 : Int32).toNatClampNeg (6 : Int32).toNatClampNeg), w_t.2.2.1, w_t.2.2.2) w_a1) H := hP
  have hD : va_D A (wc_X3_become cy q_t q_t_behind q_t_who q_t_grief q_a1 q_a1_behind q_a1_who q_a1_grief (w_t.1, (va_cpy w_a1.2.1 w_t.2.1 (0 : Int32).toNatClampNeg (0 : Int32).toNatClampNeg (6 : Int32).toNatClampNeg), w_t.2.2.1, w_t.2.2.2) w_a1) := hD
  refine lv_aload_n hx hb dX3_become_15 rfl (lv_at hl 1 rfl) ?_
  refine va_get (D := D) (ci := 3) (v := .ref q_a1_who) (C := RX3) (T := TX3) (N := 4) hx hb hts (fun w hw => List.mem_cons_of_mem _ (uw_X3 w hw)) hown hK.1 hP 4 rfl rfl 1 (by decide) (hts _ (List.mem_cons_of_mem _ k_91)) (fun _ h9 => h9) rfl dX3_become_16 ?_
  refine lv_iconst (v := 0) hx hb dX3_become_19 (by decide) ?_
  refine lv_aload_n hx hb dX3_become_20 rfl (lv_at hl 0 rfl) ?_
  refine va_get (D := D) (ci := 3) (v := .ref q_t_who) (C := RX3) (T := TX3) (N := 4) hx hb hts (fun w hw => List.mem_cons_of_mem _ (uw_X3 w hw)) hown hK.1 hP 0 rfl rfl 1 (by decide) (hts _ (List.mem_cons_of_mem _ k_91)) (fun _ h9 => h9) rfl dX3_become_21 ?_
  refine lv_iconst (v := 0) hx hb dX3_become_24 (by decide) ?_
  refine lv_bipush (v := 6) hx hb dX3_become_25 (by decide) ?_
  refine va_copyi (own := RX3) hx hb (by rw [hml]; exact hl.1.symm) hown (hts _ (List.mem_cons_of_mem _ k_643)) (hts _ (List.mem_cons_of_mem _ k_383)) (hts _ (List.mem_cons_of_mem _ k_382)) (hts _ (List.mem_cons_of_mem _ k_13)) hK.1 hP hD hS 6 2 1 1 rfl rfl rfl rfl rfl (by decide) (by decide) (by decide) (by decide) (by decide) (fun _ _ => rfl) (by decide) (by decide +kernel) dX3_become_27 (fun H locs hP hD hS => ?_)
  have hP : va_P D vwCl (wc_X3_become cy q_t q_t_behind q_t_who q_t_grief q_a1 q_a1_behind q_a1_who q_a1_grief (w_t.1, (va_cpy w_a1.2.1 w_t.2.1 (0 : Int32).toNatClampNeg (0 : Int32).toNatClampNeg (6 : Int32).toNatClampNeg), (va_cpy w_a1.2.2.1 w_t.2.2.1 (0 : Int32).toNatClampNeg (0 : Int32).toNatClampNeg (6 : Int32).toNatClampNeg), w_t.2.2.2) w_a1) H := hP
  have hD : va_D A (wc_X3_become cy q_t q_t_behind q_t_who q_t_grief q_a1 q_a1_behind q_a1_who q_a1_grief (w_t.1, (va_cpy w_a1.2.1 w_t.2.1 (0 : Int32).toNatClampNeg (0 : Int32).toNatClampNeg (6 : Int32).toNatClampNeg), (va_cpy w_a1.2.2.1 w_t.2.2.1 (0 : Int32).toNatClampNeg (0 : Int32).toNatClampNeg (6 : Int32).toNatClampNeg), w_t.2.2.2) w_a1) := hD
  refine lv_aload_n hx hb dX3_become_30 rfl (lv_at hl 1 rfl) ?_
  refine va_get (D := D) (ci := 3) (v := .ref q_a1_grief) (C := RX3) (T := TX3) (N := 4) hx hb hts (fun w hw => List.mem_cons_of_mem _ (uw_X3 w hw)) hown hK.1 hP 4 rfl rfl 2 (by decide) (hts _ (List.mem_cons_of_mem _ k_92)) (fun _ h9 => h9) rfl dX3_become_31 ?_
  refine lv_iconst (v := 0) hx hb dX3_become_34 (by decide) ?_
  refine lv_aload_n hx hb dX3_become_35 rfl (lv_at hl 0 rfl) ?_
  refine va_get (D := D) (ci := 3) (v := .ref q_t_grief) (C := RX3) (T := TX3) (N := 4) hx hb hts (fun w hw => List.mem_cons_of_mem _ (uw_X3 w hw)) hown hK.1 hP 0 rfl rfl 2 (by decide) (hts _ (List.mem_cons_of_mem _ k_92)) (fun _ h9 => h9) rfl dX3_become_36 ?_
  refine lv_iconst (v := 0) hx hb dX3_become_39 (by decide) ?_
  refine lv_bipush (v := 6) hx hb dX3_become_40 (by decide) ?_
  refine va_copyi (own := RX3) hx hb (by rw [hml]; exact hl.1.symm) hown (hts _ (List.mem_cons_of_mem _ k_643)) (hts _ (List.mem_cons_of_mem _ k_383)) (hts _ (List.mem_cons_of_mem _ k_382)) (hts _ (List.mem_cons_of_mem _ k_13)) hK.1 hP hD hS 7 3 1 1 rfl rfl rfl rfl rfl (by decide) (by decide) (by decide) (by decide) (by decide) (fun _ _ => rfl) (by decide) (by decide +kernel) dX3_become_42 (fun H locs hP hD hS => ?_)
  have hP : va_P D vwCl (wc_X3_become cy q_t q_t_behind q_t_who q_t_grief q_a1 q_a1_behind q_a1_who q_a1_grief (w_t.1, (va_cpy w_a1.2.1 w_t.2.1 (0 : Int32).toNatClampNeg (0 : Int32).toNatClampNeg (6 : Int32).toNatClampNeg), (va_cpy w_a1.2.2.1 w_t.2.2.1 (0 : Int32).toNatClampNeg (0 : Int32).toNatClampNeg (6 : Int32).toNatClampNeg), (va_cpy w_a1.2.2.2 w_t.2.2.2 (0 : Int32).toNatClampNeg (0 : Int32).toNatClampNeg (6 : Int32).toNatClampNeg)) w_a1) H := hP
  have hD : va_D A (wc_X3_become cy q_t q_t_behind q_t_who q_t_grief q_a1 q_a1_behind q_a1_who q_a1_grief (w_t.1, (va_cpy w_a1.2.1 w_t.2.1 (0 : Int32).toNatClampNeg (0 : Int32).toNatClampNeg (6 : Int32).toNatClampNeg), (va_cpy w_a1.2.2.1 w_t.2.2.1 (0 : Int32).toNatClampNeg (0 : Int32).toNatClampNeg (6 : Int32).toNatClampNeg), (va_cpy w_a1.2.2.2 w_t.2.2.2 (0 : Int32).toNatClampNeg (0 : Int32).toNatClampNeg (6 : Int32).toNatClampNeg)) w_a1) := hD
  refine lv_aload_n hx hb dX3_become_45 rfl (lv_at hl 0 rfl) ?_
  refine lv_aload_n hx hb dX3_become_46 rfl (lv_at hl 1 rfl) ?_
  refine va_get (D := D) (ci := 3) (v := .int w_a1.1) (C := RX3) (T := TX3) (N := 4) hx hb hts (fun w hw => List.mem_cons_of_mem _ (uw_X3 w hw)) hown hK.1 hP 4 rfl rfl 3 (by decide) (hts _ (List.mem_cons_of_mem _ k_93)) (fun _ h9 => h9) rfl dX3_become_47 ?_
  refine va_put (D := D) (ci := 3) (v := .int w_a1.1) (ty := .int) (C := RX3) (T := TX3) (N := 4) hx hb hts (fun w hw => List.mem_cons_of_mem _ (uw_X3 w hw)) tyX3 tyX3_ok nmX3 hown hK.1 hP hD hS 0 rfl rfl 3 (by decide) (hts _ (List.mem_cons_of_mem _ k_93)) (fun _ h9 => h9) rfl (by decide +kernel) rfl rfl (Nat.le_of_ble_eq_true rfl) dX3_become_50 (fun H locs hP hD hS => ?_)
  have hP : va_P D vwCl (wc_X3_become cy q_t q_t_behind q_t_who q_t_grief q_a1 q_a1_behind q_a1_who q_a1_grief (w_a1.1, (va_cpy w_a1.2.1 w_t.2.1 (0 : Int32).toNatClampNeg (0 : Int32).toNatClampNeg (6 : Int32).toNatClampNeg), (va_cpy w_a1.2.2.1 w_t.2.2.1 (0 : Int32).toNatClampNeg (0 : Int32).toNatClampNeg (6 : Int32).toNatClampNeg), (va_cpy w_a1.2.2.2 w_t.2.2.2 (0 : Int32).toNatClampNeg (0 : Int32).toNatClampNeg (6 : Int32).toNatClampNeg)) w_a1) H := hP
  have hD : va_D A (wc_X3_become cy q_t q_t_behind q_t_who q_t_grief q_a1 q_a1_behind q_a1_who q_a1_grief (w_a1.1, (va_cpy w_a1.2.1 w_t.2.1 (0 : Int32).toNatClampNeg (0 : Int32).toNatClampNeg (6 : Int32).toNatClampNeg), (va_cpy w_a1.2.2.1 w_t.2.2.1 (0 : Int32).toNatClampNeg (0 : Int32).toNatClampNeg (6 : Int32).toNatClampNeg), (va_cpy w_a1.2.2.2 w_t.2.2.2 (0 : Int32).toNatClampNeg (0 : Int32).toNatClampNeg (6 : Int32).toNatClampNeg)) w_a1) := hD
  obtain rfl := Option.some.inj h
  exact W.vret hx hb hr (fun tt ht hW => ⟨⟨(w_a1.1, (va_cpy w_a1.2.1 w_t.2.1 (0 : Int32).toNatClampNeg (0 : Int32).toNatClampNeg (6 : Int32).toNatClampNeg), (va_cpy w_a1.2.2.1 w_t.2.2.1 (0 : Int32).toNatClampNeg (0 : Int32).toNatClampNeg (6 : Int32).toNatClampNeg), (va_cpy w_a1.2.2.2 w_t.2.2.2 (0 : Int32).toNatClampNeg (0 : Int32).toNatClampNeg (6 : Int32).toNatClampNeg)), rfl, rfl, by rw [ht]; exact hP, kk_warm hW hK, hD⟩, hS.F ht⟩) hS.2.2 dX3_become_53
def M_X3_become  (w_a1 : s_V)  (w_t : s_V)  : Option (s_V) := B_X3_become_0 w_a1 w_t
set_option maxHeartbeats 4000000 in
set_option maxRecDepth 100000 in
theorem c_X3_become (l : Launch) (D : va_G) (cy : Nat → ClassId) (sz : Nat) (q_t : Nat) (q_t_behind : Nat) (q_t_who : Nat) (q_t_grief : Nat) (q_a1 : Nat) (q_a1_behind : Nat) (q_a1_who : Nat) (q_a1_grief : Nat) (w_t : s_V) (w_a1 : s_V)   {res : s_V} (h : M_X3_become w_a1 w_t = some res) : ct_v l yX3_become (.code yX3_become cX3_become 2 (none) :: wg_L) rm_X3_become D cy sz (wc_X3_become cy q_t q_t_behind q_t_who q_t_grief q_a1 q_a1_behind q_a1_who q_a1_grief w_t w_a1) [.ref q_t, .ref q_a1] (fun (u : s_V) => u = res) (fun (u : s_V) => wc_X3_become cy q_t q_t_behind q_t_who q_t_grief q_a1 q_a1_behind q_a1_who q_a1_grief u w_a1) := by
  refine Met.ofW (cc := cX3_become) (maxL := 2) (ret := none) (by decide) rfl ?_
  intro p e s m args below meth c s₁ B hml hv
  obtain ⟨rfl, hsz, hP, hK, hD0⟩ := hv
  subst hsz
  have hD := hD0.self (sz := s.heap.size)
  have hl := lv_entry ([.ref q_t, .ref q_a1]) (n := 2) (Nat.le_of_ble_eq_true rfl)
  rw [lg_entry_eq]
  have C0 : cx_C cX3_become (none) 2 RX3 (.code yX3_become cX3_become 2 (none) :: wg_L) p s m [.ref q_t, .ref q_a1].toArray meth c D cy (va_A (wc_X3_become cy q_t q_t_behind q_t_who q_t_grief q_a1 q_a1_behind q_a1_who q_a1_grief w_t w_a1) s.heap.size) := ⟨B.exec, B.bytes, B.returns, hml, findClass_of_methodNamed B.named, atoms_spec (ws := .code yX3_become cX3_become 2 (none) :: wg_L) B.pre, hK, B.notSynchronized, fun q h => Or.inr h⟩
  exact b_X3_become_0 C0 h hP hD va_S.rf (lv_sub hl [0, 1] rfl)
/-! ### BarrowGrief$Sights.add(III)V -/
abbrev wc_X3_add (cy : Nat → ClassId) (q_t q_t_behind q_t_who q_t_grief : Nat) (w_t : s_V) : va_W := [(q_t, .inr (3, [.ref q_t_behind, .ref q_t_who, .ref q_t_grief, .int w_t.1])), (q_t_behind, .inl (cy 1, 6, .inl w_t.2.1)), (q_t_who, .inl (cy 1, 6, .inl w_t.2.2.1)), (q_t_grief, .inl (cy 1, 6, .inl w_t.2.2.2))]
abbrev rm_X3_add : Room := { frames := 0, cells := 0, slots := 0, locals := 0 }
abbrev qq_X3_add (below : List Frame) (args : Array Value) (s : State) (D : va_G) (cy : Nat → ClassId) (A : Nat → Prop) (q_t : Nat) (q_t_behind : Nat) (q_t_who : Nat) (q_t_grief : Nat) (res : s_V) : State → Prop := MQ below (va_Qv (fun (u : s_V) => u = res) (fun u t => st_B D cy A ((fun (u : s_V) => wc_X3_add cy q_t q_t_behind q_t_who q_t_grief u) u) t) A) args s 0 0 A
def B_X3_add_0    (w_t : s_V) (v1 : Int32) (v2 : Int32) (v3 : Int32) : Option (s_V) := if 6 ≤ w_t.1 then (some w_t) else (gi_n w_t.1 6 (gi_n w_t.1 6 (gi_n w_t.1 6 (nm_v (w_t.1 + 1) (fun z46 => some (z46, (upd w_t.2.1 w_t.1.toNatClampNeg v1), (upd w_t.2.2.1 w_t.1.toNatClampNeg v2), (upd w_t.2.2.2 w_t.1.toNatClampNeg v3)))))))
set_option maxHeartbeats 4000000 in
set_option maxRecDepth 100000 in
theorem b_X3_add_0 {p : Program} {l : Launch} {e : Env} {s : State} {m : MethodId} {args : Array Value} {below : List Frame} {meth : Method} {c : Code} {D : va_G} {cy : Nat → ClassId} {A : Nat → Prop} {q_t : Nat} {q_t_behind : Nat} {q_t_who : Nat} {q_t_grief : Nat} {res : s_V}   {w_t : s_V} {v1 : Int32} {v2 : Int32} {v3 : Int32} (C0 : cx_C cX3_add (none) 4 RX3 (.code yX3_add cX3_add 4 (none) :: wg_L) p s m args meth c D cy A)  (h : B_X3_add_0 w_t v1 v2 v3 = some res) {H : Heap} {locs : List Loc} {ls : Array Slot} (hP : va_P D vwCl (wc_X3_add cy q_t q_t_behind q_t_who q_t_grief w_t) H) (hD : va_D A (wc_X3_add cy q_t q_t_behind q_t_who q_t_grief w_t)) (hS : va_S A s.heap H locs) (hl : lv_has ls 4 [(0, .ref q_t), (1, .int v1), (2, .int v2), (3, .int v3)]) : W p l e rm_X3_add s m args below meth c H locs 0 0 (qq_X3_add below args s D cy A q_t q_t_behind q_t_who q_t_grief res) (F0 m 0 ls []) := by
  obtain ⟨hx, hb, hr, hml, hown, hts, hK, hlocks, hA⟩ := id C0
  unfold B_X3_add_0 at h
  refine lv_aload_n hx hb dX3_add_0 rfl (lv_at hl 0 rfl) ?_
  refine va_get (D := D) (ci := 3) (v := .int w_t.1) (C := RX3) (T := TX3) (N := 4) hx hb hts (fun w hw => List.mem_cons_of_mem _ (uw_X3 w hw)) hown hK.1 hP 0 rfl rfl 3 (by decide) (hts _ (List.mem_cons_of_mem _ k_93)) (fun _ h9 => h9) rfl dX3_add_1 ?_
  refine lv_bipush (v := 6) hx hb dX3_add_4 (by decide) ?_
  refine lv_icmp_ge (tgt := 49) hx hb dX3_add_6 (by decide) (fun c6 => ?_) (fun c6 => ?_)
  · replace h := it_p c6 h
    obtain rfl := Option.some.inj h
    exact W.vret hx hb hr (fun tt ht hW => ⟨⟨w_t, rfl, rfl, by rw [ht]; exact hP, kk_warm hW hK, hD⟩, hS.F ht⟩) hS.2.2 dX3_add_49
  · replace h := it_n c6 h
    refine lv_aload_n hx hb dX3_add_9 rfl (lv_at hl 0 rfl) ?_
    refine va_get (D := D) (ci := 3) (v := .ref q_t_behind) (C := RX3) (T := TX3) (N := 4) hx hb hts (fun w hw => List.mem_cons_of_mem _ (uw_X3 w hw)) hown hK.1 hP 0 rfl rfl 0 (by decide) (hts _ (List.mem_cons_of_mem _ k_90)) (fun _ h9 => h9) rfl dX3_add_10 ?_
    refine lv_aload_n hx hb dX3_add_13 rfl (lv_at hl 0 rfl) ?_
    refine va_get (D := D) (ci := 3) (v := .int w_t.1) (C := RX3) (T := TX3) (N := 4) hx hb hts (fun w hw => List.mem_cons_of_mem _ (uw_X3 w hw)) hown hK.1 hP 0 rfl rfl 3 (by decide) (hts _ (List.mem_cons_of_mem _ k_93)) (fun _ h9 => h9) rfl dX3_add_14 ?_
    refine lv_iload_n hx hb dX3_add_17 rfl (lv_at hl 1 rfl) ?_
    obtain ⟨hi1, h⟩ := gi_d h
    refine va_iast hx hb hK.1 hP hD hS 1 1 rfl rfl hi1 dX3_add_18 (fun H locs hP hD hS => ?_)
    have hP : va_P D vwCl (wc_X3_add cy q_t q_t_behind q_t_who q_t_grief (w_t.1, (upd w_t.2.1 w_t.1.toNatClampNeg v1), w_t.2.2.1, w_t.2.2.2)) H := hP
    have hD : va_D A (wc_X3_add cy q_t q_t_behind q_t_who q_t_grief (w_t.1, (upd w_t.2.1 w_t.1.toNatClampNeg v1), w_t.2.2.1, w_t.2.2.2)) := hD
    refine lv_aload_n hx hb dX3_add_19 rfl (lv_at hl 0 rfl) ?_
    refine va_get (D := D) (ci := 3) (v := .ref q_t_who) (C := RX3) (T := TX3) (N := 4) hx hb hts (fun w hw => List.mem_cons_of_mem _ (uw_X3 w hw)) hown hK.1 hP 0 rfl rfl 1 (by decide) (hts _ (List.mem_cons_of_mem _ k_91)) (fun _ h9 => h9) rfl dX3_add_20 ?_
    refine lv_aload_n hx hb dX3_add_23 rfl (lv_at hl 0 rfl) ?_
    refine va_get (D := D) (ci := 3) (v := .int w_t.1) (C := RX3) (T := TX3) (N := 4) hx hb hts (fun w hw => List.mem_cons_of_mem _ (uw_X3 w hw)) hown hK.1 hP 0 rfl rfl 3 (by decide) (hts _ (List.mem_cons_of_mem _ k_93)) (fun _ h9 => h9) rfl dX3_add_24 ?_
    refine lv_iload_n hx hb dX3_add_27 rfl (lv_at hl 2 rfl) ?_
    obtain ⟨hi2, h⟩ := gi_d h
    refine va_iast hx hb hK.1 hP hD hS 2 1 rfl rfl hi2 dX3_add_28 (fun H locs hP hD hS => ?_)
    have hP : va_P D vwCl (wc_X3_add cy q_t q_t_behind q_t_who q_t_grief (w_t.1, (upd w_t.2.1 w_t.1.toNatClampNeg v1), (upd w_t.2.2.1 w_t.1.toNatClampNeg v2), w_t.2.2.2)) H := hP
    have hD : va_D A (wc_X3_add cy q_t q_t_behind q_t_who q_t_grief (w_t.1, (upd w_t.2.1 w_t.1.toNatClampNeg v1), (upd w_t.2.2.1 w_t.1.toNatClampNeg v2), w_t.2.2.2)) := hD
    refine lv_aload_n hx hb dX3_add_29 rfl (lv_at hl 0 rfl) ?_
    refine va_get (D := D) (ci := 3) (v := .ref q_t_grief) (C := RX3) (T := TX3) (N := 4) hx hb hts (fun w hw => List.mem_cons_of_mem _ (uw_X3 w hw)) hown hK.1 hP 0 rfl rfl 2 (by decide) (hts _ (List.mem_cons_of_mem _ k_92)) (fun _ h9 => h9) rfl dX3_add_30 ?_
    refine lv_aload_n hx hb dX3_add_33 rfl (lv_at hl 0 rfl) ?_
    refine va_get (D := D) (ci := 3) (v := .int w_t.1) (C := RX3) (T := TX3) (N := 4) hx hb hts (fun w hw => List.mem_cons_of_mem _ (uw_X3 w hw)) hown hK.1 hP 0 rfl rfl 3 (by decide) (hts _ (List.mem_cons_of_mem _ k_93)) (fun _ h9 => h9) rfl dX3_add_34 ?_
    refine lv_iload_n hx hb dX3_add_37 rfl (lv_at hl 3 rfl) ?_
    obtain ⟨hi3, h⟩ := gi_d h
    refine va_iast hx hb hK.1 hP hD hS 3 1 rfl rfl hi3 dX3_add_38 (fun H locs hP hD hS => ?_)
    have hP : va_P D vwCl (wc_X3_add cy q_t q_t_behind q_t_who q_t_grief (w_t.1, (upd w_t.2.1 w_t.1.toNatClampNeg v1), (upd w_t.2.2.1 w_t.1.toNatClampNeg v2), (upd w_t.2.2.2 w_t.1.toNatClampNeg v3))) H := hP
    have hD : va_D A (wc_X3_add cy q_t q_t_behind q_t_who q_t_grief (w_t.1, (upd w_t.2.1 w_t.1.toNatClampNeg v1), (upd w_t.2.2.1 w_t.1.toNatClampNeg v2), (upd w_t.2.2.2 w_t.1.toNatClampNeg v3))) := hD
    refine lv_aload_n hx hb dX3_add_39 rfl (lv_at hl 0 rfl) ?_
    refine lv_dup hx hb dX3_add_40 rfl ?_
    refine va_get (D := D) (ci := 3) (v := .int w_t.1) (C := RX3) (T := TX3) (N := 4) hx hb hts (fun w hw => List.mem_cons_of_mem _ (uw_X3 w hw)) hown hK.1 hP 0 rfl rfl 3 (by decide) (hts _ (List.mem_cons_of_mem _ k_93)) (fun _ h9 => h9) rfl dX3_add_41 ?_
    refine lv_iconst (v := 1) hx hb dX3_add_44 (by decide) ?_
    refine lv_iadd hx hb dX3_add_45 ?_
    refine lv_topi (fun z46 ez46 => ?_)
    replace h := nm_d ez46 h
    refine va_put (D := D) (ci := 3) (v := .int z46) (ty := .int) (C := RX3) (T := TX3) (N := 4) hx hb hts (fun w hw => List.mem_cons_of_mem _ (uw_X3 w hw)) tyX3 tyX3_ok nmX3 hown hK.1 hP hD hS 0 rfl rfl 3 (by decide) (hts _ (List.mem_cons_of_mem _ k_93)) (fun _ h9 => h9) rfl (by decide +kernel) rfl rfl (Nat.le_of_ble_eq_true rfl) dX3_add_46 (fun H locs hP hD hS => ?_)
    have hP : va_P D vwCl (wc_X3_add cy q_t q_t_behind q_t_who q_t_grief (z46, (upd w_t.2.1 w_t.1.toNatClampNeg v1), (upd w_t.2.2.1 w_t.1.toNatClampNeg v2), (upd w_t.2.2.2 w_t.1.toNatClampNeg v3))) H := hP
    have hD : va_D A (wc_X3_add cy q_t q_t_behind q_t_who q_t_grief (z46, (upd w_t.2.1 w_t.1.toNatClampNeg v1), (upd w_t.2.2.1 w_t.1.toNatClampNeg v2), (upd w_t.2.2.2 w_t.1.toNatClampNeg v3))) := hD
    obtain rfl := Option.some.inj h
    exact W.vret hx hb hr (fun tt ht hW => ⟨⟨(z46, (upd w_t.2.1 w_t.1.toNatClampNeg v1), (upd w_t.2.2.1 w_t.1.toNatClampNeg v2), (upd w_t.2.2.2 w_t.1.toNatClampNeg v3)), rfl, rfl, by rw [ht]; exact hP, kk_warm hW hK, hD⟩, hS.F ht⟩) hS.2.2 dX3_add_49
def M_X3_add    (w_t : s_V) (v1 : Int32) (v2 : Int32) (v3 : Int32) : Option (s_V) := B_X3_add_0 w_t v1 v2 v3
set_option maxHeartbeats 4000000 in
set_option maxRecDepth 100000 in
theorem c_X3_add (l : Launch) (D : va_G) (cy : Nat → ClassId) (sz : Nat) (q_t : Nat) (q_t_behind : Nat) (q_t_who : Nat) (q_t_grief : Nat) (w_t : s_V) (v1 : Int32) (v2 : Int32) (v3 : Int32)  {res : s_V} (h : M_X3_add w_t v1 v2 v3 = some res) : ct_v l yX3_add (.code yX3_add cX3_add 4 (none) :: wg_L) rm_X3_add D cy sz (wc_X3_add cy q_t q_t_behind q_t_who q_t_grief w_t) [.ref q_t, .int v1, .int v2, .int v3] (fun (u : s_V) => u = res) (fun (u : s_V) => wc_X3_add cy q_t q_t_behind q_t_who q_t_grief u) := by
  refine Met.ofW (cc := cX3_add) (maxL := 4) (ret := none) (by decide) rfl ?_
  intro p e s m args below meth c s₁ B hml hv
  obtain ⟨rfl, hsz, hP, hK, hD0⟩ := hv
  subst hsz
  have hD := hD0.self (sz := s.heap.size)
  have hl := lv_entry ([.ref q_t, .int v1, .int v2, .int v3]) (n := 4) (Nat.le_of_ble_eq_true rfl)
  rw [lg_entry_eq]
  have C0 : cx_C cX3_add (none) 4 RX3 (.code yX3_add cX3_add 4 (none) :: wg_L) p s m [.ref q_t, .int v1, .int v2, .int v3].toArray meth c D cy (va_A (wc_X3_add cy q_t q_t_behind q_t_who q_t_grief w_t) s.heap.size) := ⟨B.exec, B.bytes, B.returns, hml, findClass_of_methodNamed B.named, atoms_spec (ws := .code yX3_add cX3_add 4 (none) :: wg_L) B.pre, hK, B.notSynchronized, fun q h => Or.inr h⟩
  exact b_X3_add_0 C0 h hP hD va_S.rf (lv_sub hl [0, 1, 2, 3] rfl)
/-! ### BarrowGrief$Sights.fitBehind(ILBarrowGrief$World;)Z -/
abbrev wc_X3_fitBehind (cy : Nat → ClassId) (q_t q_t_behind q_t_who q_t_grief q_a2 q_a2_kind q_a2_grief q_a2_bears q_a2_rota : Nat) (w_t : s_V) (w_a2 : s_W) : va_W := [(q_t, .inr (3, [.ref q_t_behind, .ref q_t_who, .ref q_t_grief, .int w_t.1])), (q_t_behind, .inl (cy 1, 6, .inl w_t.2.1)), (q_t_who, .inl (cy 1, 6, .inl w_t.2.2.1)), (q_t_grief, .inl (cy 1, 6, .inl w_t.2.2.2)), (q_a2, .inr (5, [.ref q_a2_kind, .ref q_a2_grief, .ref q_a2_bears, .ref q_a2_rota, .int w_a2.1, .int w_a2.2.1, .int w_a2.2.2.1, .int w_a2.2.2.2.1, .int w_a2.2.2.2.2.1, .int w_a2.2.2.2.2.2.1, .int w_a2.2.2.2.2.2.2.1])), (q_a2_kind, .inl (cy 1, 5, .inl w_a2.2.2.2.2.2.2.2.1)), (q_a2_grief, .inl (cy 1, 5, .inl w_a2.2.2.2.2.2.2.2.2.1)), (q_a2_bears, .inl (cy 1, 5, .inl w_a2.2.2.2.2.2.2.2.2.2.1)), (q_a2_rota, .inl (cy 1, 8, .inl w_a2.2.2.2.2.2.2.2.2.2.2))]
abbrev rm_X3_fitBehind : Room := { frames := 1, cells := 0, slots := 0, locals := 21 }
abbrev qq_X3_fitBehind (below : List Frame) (args : Array Value) (s : State) (D : va_G) (cy : Nat → ClassId) (A : Nat → Prop) (q_t : Nat) (q_t_behind : Nat) (q_t_who : Nat) (q_t_grief : Nat) (q_a2 : Nat) (q_a2_kind : Nat) (q_a2_grief : Nat) (q_a2_bears : Nat) (q_a2_rota : Nat) (w_t : s_V) (w_a2 : s_W) (res : Int32) : State → Prop := MQ below (va_Qi (fun r (_ : Unit) => r = res) (fun u t => st_B D cy A ((fun (u : Unit) => wc_X3_fitBehind cy q_t q_t_behind q_t_who q_t_grief q_a2 q_a2_kind q_a2_grief q_a2_bears q_a2_rota w_t w_a2) u) t) A) args s 0 0 A
def B_X3_fitBehind_55 (k2 : Int32 → Int32 → Option (Int32)) (w_t : s_V) (w_a2 : s_W) (f : Nat)  (v1 : Int32) (v3 : Int32) : Option (Int32) := k2 v1 (v3 + 1)
set_option maxHeartbeats 4000000 in
set_option maxRecDepth 100000 in
theorem b_X3_fitBehind_55 {p : Program} {l : Launch} {e : Env} {s : State} {m : MethodId} {args : Array Value} {below : List Frame} {meth : Method} {c : Code} {D : va_G} {cy : Nat → ClassId} {A : Nat → Prop} {q_t : Nat} {q_t_behind : Nat} {q_t_who : Nat} {q_t_grief : Nat} {q_a2 : Nat} {q_a2_kind : Nat} {q_a2_grief : Nat} {q_a2_bears : Nat} {q_a2_rota : Nat} {w_t : s_V} {w_a2 : s_W} {res : Int32} {k2 : Int32 → Int32 → Option (Int32)} {f : Nat}  {v1 : Int32} {v3 : Int32} (C0 : cx_C cX3_fitBehind ((some .boolean)) 4 RX3 (.code yX3_fitBehind cX3_fitBehind 4 ((some .boolean)) :: wg_L) p s m args meth c D cy A) (hk2 : ∀  (v1 : Int32) (v3 : Int32), k2 v1 v3 = some res → ∀ (H : Heap) (locs : List Loc) (ls : Array Slot), va_P D vwCl (wc_X3_fitBehind cy q_t q_t_behind q_t_who q_t_grief q_a2 q_a2_kind q_a2_grief q_a2_bears q_a2_rota w_t w_a2) H → va_D A (wc_X3_fitBehind cy q_t q_t_behind q_t_who q_t_grief q_a2 q_a2_kind q_a2_grief q_a2_bears q_a2_rota w_t w_a2) → va_S A s.heap H locs → lv_has ls 4 [(0, .ref q_t), (1, .int v1), (2, .ref q_a2), (3, .int v3)] → W p l e rm_X3_fitBehind s m args below meth c H locs 0 0 (qq_X3_fitBehind below args s D cy A q_t q_t_behind q_t_who q_t_grief q_a2 q_a2_kind q_a2_grief q_a2_bears q_a2_rota w_t w_a2 res) (F0 m 2 ls [])) (h : B_X3_fitBehind_55 k2 w_t w_a2 f v1 v3 = some res) {H : Heap} {locs : List Loc} {ls : Array Slot} (hP : va_P D vwCl (wc_X3_fitBehind cy q_t q_t_behind q_t_who q_t_grief q_a2 q_a2_kind q_a2_grief q_a2_bears q_a2_rota w_t w_a2) H) (hD : va_D A (wc_X3_fitBehind cy q_t q_t_behind q_t_who q_t_grief q_a2 q_a2_kind q_a2_grief q_a2_bears q_a2_rota w_t w_a2)) (hS : va_S A s.heap H locs) (hl : lv_has ls 4 [(0, .ref q_t), (1, .int v1), (2, .ref q_a2), (3, .int v3)]) : W p l e rm_X3_fitBehind s m args below meth c H locs 0 0 (qq_X3_fitBehind below args s D cy A q_t q_t_behind q_t_who q_t_grief q_a2 q_a2_kind q_a2_grief q_a2_bears q_a2_rota w_t w_a2 res) (F0 m 55 ls []) := by
  obtain ⟨hx, hb, hr, hml, hown, hts, hK, hlocks, hA⟩ := id C0
  unfold B_X3_fitBehind_55 at h
  refine lv_iinc (v := (v3 + 1)) (lv' := [(3, .int (v3 + 1)), (0, .ref q_t), (1, .int v1), (2, .ref q_a2)]) hx hb dX3_fitBehind_55 hl (k := 3) rfl (by rfl) (by decide) rfl (fun ls hl => ?_)
  refine lv_goto (tgt := 2) hx hb dX3_fitBehind_58 (by decide) ?_
  exact hk2 _ _ h _ _ _ hP hD hS (lv_sub hl [1, 2, 3, 0] rfl)
def B_X3_fitBehind_2 (k2 : Int32 → Int32 → Option (Int32)) (w_t : s_V) (w_a2 : s_W) (f : Nat)  (v1 : Int32) (v3 : Int32) : Option (Int32) := if w_t.1 ≤ v3 then (some 1) else (gi_n v3 6 (if (w_t.2.1 v3.toNatClampNeg) = v1 then (gi_n v3 6 ((M_X5_has w_a2 (w_t.2.2.1 v3.toNatClampNeg)).bind (fun u27 => if u27 = 0 then (B_X3_fitBehind_55 k2 w_t w_a2 f v1 v3) else (gi_n v3 6 (gi_n (w_t.2.2.1 v3.toNatClampNeg) 5 (gi_n v3 6 (if (w_a2.2.2.2.2.2.2.2.2.1 (w_t.2.2.1 v3.toNatClampNeg).toNatClampNeg) = (w_t.2.2.2 v3.toNatClampNeg) then (B_X3_fitBehind_55 k2 w_t w_a2 f v1 v3) else (some 0)))))))) else (B_X3_fitBehind_55 k2 w_t w_a2 f v1 v3)))
set_option maxHeartbeats 4000000 in
set_option maxRecDepth 100000 in
theorem b_X3_fitBehind_2 {p : Program} {l : Launch} {e : Env} {s : State} {m : MethodId} {args : Array Value} {below : List Frame} {meth : Method} {c : Code} {D : va_G} {cy : Nat → ClassId} {A : Nat → Prop} {q_t : Nat} {q_t_behind : Nat} {q_t_who : Nat} {q_t_grief : Nat} {q_a2 : Nat} {q_a2_kind : Nat} {q_a2_grief : Nat} {q_a2_bears : Nat} {q_a2_rota : Nat} {w_t : s_V} {w_a2 : s_W} {res : Int32} {k2 : Int32 → Int32 → Option (Int32)} {f : Nat}  {v1 : Int32} {v3 : Int32} (C0 : cx_C cX3_fitBehind ((some .boolean)) 4 RX3 (.code yX3_fitBehind cX3_fitBehind 4 ((some .boolean)) :: wg_L) p s m args meth c D cy A) (hk2 : ∀  (v1 : Int32) (v3 : Int32), k2 v1 v3 = some res → ∀ (H : Heap) (locs : List Loc) (ls : Array Slot), va_P D vwCl (wc_X3_fitBehind cy q_t q_t_behind q_t_who q_t_grief q_a2 q_a2_kind q_a2_grief q_a2_bears q_a2_rota w_t w_a2) H → va_D A (wc_X3_fitBehind cy q_t q_t_behind q_t_who q_t_grief q_a2 q_a2_kind q_a2_grief q_a2_bears q_a2_rota w_t w_a2) → va_S A s.heap H locs → lv_has ls 4 [(0, .ref q_t), (1, .int v1), (2, .ref q_a2), (3, .int v3)] → W p l e rm_X3_fitBehind s m args below meth c H locs 0 0 (qq_X3_fitBehind below args s D cy A q_t q_t_behind q_t_who q_t_grief q_a2 q_a2_kind q_a2_grief q_a2_bears q_a2_rota w_t w_a2 res) (F0 m 2 ls [])) (h : B_X3_fitBehind_2 k2 w_t w_a2 f v1 v3 = some res) {H : Heap} {locs : List Loc} {ls : Array Slot} (hP : va_P D vwCl (wc_X3_fitBehind cy q_t q_t_behind q_t_who q_t_grief q_a2 q_a2_kind q_a2_grief q_a2_bears q_a2_rota w_t w_a2) H) (hD : va_D A (wc_X3_fitBehind cy q_t q_t_behind q_t_who q_t_grief q_a2 q_a2_kind q_a2_grief q_a2_bears q_a2_rota w_t w_a2)) (hS : va_S A s.heap H locs) (hl : lv_has ls 4 [(0, .ref q_t), (1, .int v1), (2, .ref q_a2), (3, .int v3)]) : W p l e rm_X3_fitBehind s m args below meth c H locs 0 0 (qq_X3_fitBehind below args s D cy A q_t q_t_behind q_t_who q_t_grief q_a2 q_a2_kind q_a2_grief q_a2_bears q_a2_rota w_t w_a2 res) (F0 m 2 ls []) := by
  obtain ⟨hx, hb, hr, hml, hown, hts, hK, hlocks, hA⟩ := id C0
  unfold B_X3_fitBehind_2 at h
  refine lv_iload_n hx hb dX3_fitBehind_2 rfl (lv_at hl 3 rfl) ?_
  refine lv_aload_n hx hb dX3_fitBehind_3 rfl (lv_at hl 0 rfl) ?_
  refine va_get (D := D) (ci := 3) (v := .int w_t.1) (C := RX3) (T := TX3) (N := 4) hx hb hts (fun w hw => List.mem_cons_of_mem _ (uw_X3 w hw)) hown hK.1 hP 0 rfl rfl 3 (by decide) (hts _ (List.mem_cons_of_mem _ k_93)) (fun _ h9 => h9) rfl dX3_fitBehind_4 ?_
  refine lv_icmp_ge (tgt := 61) hx hb dX3_fitBehind_7 (by decide) (fun c7 => ?_) (fun c7 => ?_)
  · replace h := it_p c7 h
    refine lv_iconst (v := 1) hx hb dX3_fitBehind_61 (by decide) ?_
    obtain rfl := Option.some.inj h
    exact W.zret (v := 1) hx hb hr (by decide) (fun tt ht hW => ⟨⟨1, (), rfl, rfl, by rw [ht]; exact hP, kk_warm hW hK, hD⟩, hS.F ht⟩) hS.2.2 dX3_fitBehind_62
  · replace h := it_n c7 h
    refine lv_aload_n hx hb dX3_fitBehind_10 rfl (lv_at hl 0 rfl) ?_
    refine va_get (D := D) (ci := 3) (v := .ref q_t_behind) (C := RX3) (T := TX3) (N := 4) hx hb hts (fun w hw => List.mem_cons_of_mem _ (uw_X3 w hw)) hown hK.1 hP 0 rfl rfl 0 (by decide) (hts _ (List.mem_cons_of_mem _ k_90)) (fun _ h9 => h9) rfl dX3_fitBehind_11 ?_
    refine lv_iload_n hx hb dX3_fitBehind_14 rfl (lv_at hl 3 rfl) ?_
    obtain ⟨hi1, h⟩ := gi_d h
    refine va_iald hx hb hK.1 hP 1 1 rfl rfl hi1 dX3_fitBehind_15 ?_
    refine lv_iload_n hx hb dX3_fitBehind_16 rfl (lv_at hl 1 rfl) ?_
    refine lv_icmp_ne (tgt := 55) hx hb dX3_fitBehind_17 (by decide) (fun c17 => ?_) (fun c17 => ?_)
    · replace h := it_n c17 h
      exact b_X3_fitBehind_55 C0 hk2 h hP hD hS (lv_sub hl [0, 1, 2, 3] rfl)
    · replace h := it_p c17 h
      refine lv_aload_n hx hb dX3_fitBehind_20 rfl (lv_at hl 2 rfl) ?_
      refine lv_aload_n hx hb dX3_fitBehind_21 rfl (lv_at hl 0 rfl) ?_
      refine va_get (D := D) (ci := 3) (v := .ref q_t_who) (C := RX3) (T := TX3) (N := 4) hx hb hts (fun w hw => List.mem_cons_of_mem _ (uw_X3 w hw)) hown hK.1 hP 0 rfl rfl 1 (by decide) (hts _ (List.mem_cons_of_mem _ k_91)) (fun _ h9 => h9) rfl dX3_fitBehind_22 ?_
      refine lv_iload_n hx hb dX3_fitBehind_25 rfl (lv_at hl 3 rfl) ?_
      obtain ⟨hi2, h⟩ := gi_d h
      refine va_iald hx hb hK.1 hP 2 1 rfl rfl hi2 dX3_fitBehind_26 ?_
      obtain ⟨u27, hc27, h⟩ := bd_d h
      have hPc := hP.sub (ws' := wc_X5_has cy q_a2 q_a2_kind q_a2_grief q_a2_bears q_a2_rota w_a2) [4, 5, 6, 7, 8] rfl
      have hDc := hD.sub (ws' := wc_X5_has cy q_a2 q_a2_kind q_a2_grief q_a2_bears q_a2_rota w_a2) [4, 5, 6, 7, 8] (by decide) rfl
      refine cl_i (fun (u : Unit) => wc_X3_fitBehind cy q_t q_t_behind q_t_who q_t_grief q_a2 q_a2_kind q_a2_grief q_a2_bears q_a2_rota w_t w_a2) (va_runV (As := [.int (w_t.2.2.1 v3.toNatClampNeg)]) (rest := []) (C := RX5) ⟨hx, hb, hml, hown, hts⟩ (c_X5_has l D cy H.size q_a2 q_a2_kind q_a2_grief q_a2_bears q_a2_rota w_a2 (w_t.2.2.1 v3.toNatClampNeg) hc27) ⟨callB_of 1 hts (wg_in k_376) rfl rfl rfl (hts _ (List.mem_cons_of_mem _ k_2)) (hts _ (List.mem_cons_of_mem _ k_605)) (by decide +kernel) ⟨by decide, by decide⟩, (hts _ (List.mem_cons_of_mem _ k_374)), (hts _ (List.mem_cons_of_mem _ k_375))⟩ ⟨st_blind, va_recv hK.1 hPc (ci := 5) (q0 := 0) rfl rfl, fun U hU hW => st_pre hK hPc hDc hU hW⟩ rfl rfl hl.1 rfl (lv_room (Nat.le_of_ble_eq_true rfl)) dX3_fitBehind_27 ⟨by decide, by decide⟩) hP hD hS hA [4, 5, 6, 7, 8] [0, 1, 2, 3] [0, 1, 2, 3, 4, 5, 6, 7, 8] rfl rfl (by decide) (by decide) (by decide) (fun _ => rfl) (fun r u H locs hw hP hD hS => ?_)
      obtain rfl := hw.symm
      refine lv_if_eq (tgt := 55) hx hb dX3_fitBehind_30 (by decide) (fun c30 => ?_) (fun c30 => ?_)
      · replace h := it_p c30 h
        exact b_X3_fitBehind_55 C0 hk2 h hP hD hS (lv_sub hl [0, 1, 2, 3] rfl)
      · replace h := it_n c30 h
        refine lv_aload_n hx hb dX3_fitBehind_33 rfl (lv_at hl 2 rfl) ?_
        refine va_get (D := D) (ci := 5) (v := .ref q_a2_grief) (C := RX5) (T := TX5) (N := 11) hx hb hts (fun w hw => List.mem_cons_of_mem _ (uw_X5 w hw)) hown hK.1 hP 4 rfl rfl 1 (by decide) (hts _ (List.mem_cons_of_mem _ k_34)) (fun _ h9 => h9) rfl dX3_fitBehind_34 ?_
        refine lv_aload_n hx hb dX3_fitBehind_37 rfl (lv_at hl 0 rfl) ?_
        refine va_get (D := D) (ci := 3) (v := .ref q_t_who) (C := RX3) (T := TX3) (N := 4) hx hb hts (fun w hw => List.mem_cons_of_mem _ (uw_X3 w hw)) hown hK.1 hP 0 rfl rfl 1 (by decide) (hts _ (List.mem_cons_of_mem _ k_91)) (fun _ h9 => h9) rfl dX3_fitBehind_38 ?_
        refine lv_iload_n hx hb dX3_fitBehind_41 rfl (lv_at hl 3 rfl) ?_
        obtain ⟨hi3, h⟩ := gi_d h
        refine va_iald hx hb hK.1 hP 2 1 rfl rfl hi3 dX3_fitBehind_42 ?_
        obtain ⟨hi4, h⟩ := gi_d h
        refine va_iald hx hb hK.1 hP 6 1 rfl rfl hi4 dX3_fitBehind_43 ?_
        refine lv_aload_n hx hb dX3_fitBehind_44 rfl (lv_at hl 0 rfl) ?_
        refine va_get (D := D) (ci := 3) (v := .ref q_t_grief) (C := RX3) (T := TX3) (N := 4) hx hb hts (fun w hw => List.mem_cons_of_mem _ (uw_X3 w hw)) hown hK.1 hP 0 rfl rfl 2 (by decide) (hts _ (List.mem_cons_of_mem _ k_92)) (fun _ h9 => h9) rfl dX3_fitBehind_45 ?_
        refine lv_iload_n hx hb dX3_fitBehind_48 rfl (lv_at hl 3 rfl) ?_
        obtain ⟨hi5, h⟩ := gi_d h
        refine va_iald hx hb hK.1 hP 3 1 rfl rfl hi5 dX3_fitBehind_49 ?_
        refine lv_icmp_eq (tgt := 55) hx hb dX3_fitBehind_50 (by decide) (fun c50 => ?_) (fun c50 => ?_)
        · replace h := it_p c50 h
          exact b_X3_fitBehind_55 C0 hk2 h hP hD hS (lv_sub hl [0, 1, 2, 3] rfl)
        · replace h := it_n c50 h
          refine lv_iconst (v := 0) hx hb dX3_fitBehind_53 (by decide) ?_
          obtain rfl := Option.some.inj h
          exact W.zret (v := 0) hx hb hr (by decide) (fun tt ht hW => ⟨⟨0, (), rfl, rfl, by rw [ht]; exact hP, kk_warm hW hK, hD⟩, hS.F ht⟩) hS.2.2 dX3_fitBehind_54
def M_X3_fitBehind_2  (w_t : s_V) (w_a2 : s_W) : Nat → Int32 → Int32 → Option (Int32)
  | 0, _, _ => none
  | f + 1, v1, v3 => B_X3_fitBehind_2 (M_X3_fitBehind_2 w_t w_a2 f) w_t w_a2 f v1 v3
theorem t_X3_fitBehind_2 {p : Program} {l : Launch} {e : Env} {s : State} {m : MethodId} {args : Array Value} {below : List Frame} {meth : Method} {c : Code} {D : va_G} {cy : Nat → ClassId} {A : Nat → Prop} {q_t : Nat} {q_t_behind : Nat} {q_t_who : Nat} {q_t_grief : Nat} {q_a2 : Nat} {q_a2_kind : Nat} {q_a2_grief : Nat} {q_a2_bears : Nat} {q_a2_rota : Nat} {w_t : s_V} {w_a2 : s_W} {res : Int32}  (C0 : cx_C cX3_fitBehind ((some .boolean)) 4 RX3 (.code yX3_fitBehind cX3_fitBehind 4 ((some .boolean)) :: wg_L) p s m args meth c D cy A)  : ∀ (f : Nat)  (v1 : Int32) (v3 : Int32), M_X3_fitBehind_2 w_t w_a2 f v1 v3 = some res → ∀ (H : Heap) (locs : List Loc) (ls : Array Slot), va_P D vwCl (wc_X3_fitBehind cy q_t q_t_behind q_t_who q_t_grief q_a2 q_a2_kind q_a2_grief q_a2_bears q_a2_rota w_t w_a2) H → va_D A (wc_X3_fitBehind cy q_t q_t_behind q_t_who q_t_grief q_a2 q_a2_kind q_a2_grief q_a2_bears q_a2_rota w_t w_a2) → va_S A s.heap H locs → lv_has ls 4 [(0, .ref q_t), (1, .int v1), (2, .ref q_a2), (3, .int v3)] → W p l e rm_X3_fitBehind s m args below meth c H locs 0 0 (qq_X3_fitBehind below args s D cy A q_t q_t_behind q_t_who q_t_grief q_a2 q_a2_kind q_a2_grief q_a2_bears q_a2_rota w_t w_a2 res) (F0 m 2 ls []) := by
  intro f
  induction f with
  | zero =>
    intro _ _ h
    exact absurd (show (none : Option (Int32)) = some res from h) (fun q => by cases q)
  | succ f ih =>
    intro v1 v3 h H locs ls hP hD hS hl
    have h : B_X3_fitBehind_2 (M_X3_fitBehind_2 w_t w_a2 f) w_t w_a2 f v1 v3 = some res := h
    exact b_X3_fitBehind_2 C0 ih h hP hD hS hl
def B_X3_fitBehind_0  (w_t : s_V) (w_a2 : s_W) (f : Nat)  (v1 : Int32) : Option (Int32) := M_X3_fitBehind_2 w_t w_a2 f v1 0
set_option maxHeartbeats 4000000 in
set_option maxRecDepth 100000 in
theorem b_X3_fitBehind_0 {p : Program} {l : Launch} {e : Env} {s : State} {m : MethodId} {args : Array Value} {below : List Frame} {meth : Method} {c : Code} {D : va_G} {cy : Nat → ClassId} {A : Nat → Prop} {q_t : Nat} {q_t_behind : Nat} {q_t_who : Nat} {q_t_grief : Nat} {q_a2 : Nat} {q_a2_kind : Nat} {q_a2_grief : Nat} {q_a2_bears : Nat} {q_a2_rota : Nat} {w_t : s_V} {w_a2 : s_W} {res : Int32}  {f : Nat}  {v1 : Int32} (C0 : cx_C cX3_fitBehind ((some .boolean)) 4 RX3 (.code yX3_fitBehind cX3_fitBehind 4 ((some .boolean)) :: wg_L) p s m args meth c D cy A)  (h : B_X3_fitBehind_0 w_t w_a2 f v1 = some res) {H : Heap} {locs : List Loc} {ls : Array Slot} (hP : va_P D vwCl (wc_X3_fitBehind cy q_t q_t_behind q_t_who q_t_grief q_a2 q_a2_kind q_a2_grief q_a2_bears q_a2_rota w_t w_a2) H) (hD : va_D A (wc_X3_fitBehind cy q_t q_t_behind q_t_who q_t_grief q_a2 q_a2_kind q_a2_grief q_a2_bears q_a2_rota w_t w_a2)) (hS : va_S A s.heap H locs) (hl : lv_has ls 4 [(0, .ref q_t), (1, .int v1), (2, .ref q_a2)]) : W p l e rm_X3_fitBehind s m args below meth c H locs 0 0 (qq_X3_fitBehind below args s D cy A q_t q_t_behind q_t_who q_t_grief q_a2 q_a2_kind q_a2_grief q_a2_bears q_a2_rota w_t w_a2 res) (F0 m 0 ls []) := by
  obtain ⟨hx, hb, hr, hml, hown, hts, hK, hlocks, hA⟩ := id C0
  unfold B_X3_fitBehind_0 at h
  refine lv_iconst (v := 0) hx hb dX3_fitBehind_0 (by decide) ?_
  refine lv_istore_n (lv' := [(3, .int 0), (0, .ref q_t), (1, .int v1), (2, .ref q_a2)]) hx hb dX3_fitBehind_1 rfl hl (by decide) rfl (fun ls hl => ?_)
  exact t_X3_fitBehind_2 C0 _ _ _ h _ _ _ hP hD hS (lv_sub hl [1, 2, 3, 0] rfl)
def M_X3_fitBehind  (w_t : s_V) (w_a2 : s_W) (f : Nat)  (v1 : Int32) : Option (Int32) := B_X3_fitBehind_0 w_t w_a2 f v1
set_option maxHeartbeats 4000000 in
set_option maxRecDepth 100000 in
theorem c_X3_fitBehind (l : Launch) (D : va_G) (cy : Nat → ClassId) (sz : Nat) (q_t : Nat) (q_t_behind : Nat) (q_t_who : Nat) (q_t_grief : Nat) (q_a2 : Nat) (q_a2_kind : Nat) (q_a2_grief : Nat) (q_a2_bears : Nat) (q_a2_rota : Nat) (w_t : s_V) (w_a2 : s_W) (v1 : Int32) {f : Nat} {res : Int32} (h : M_X3_fitBehind w_t w_a2 f v1 = some res) : ct_i l yX3_fitBehind (.code yX3_fitBehind cX3_fitBehind 4 ((some .boolean)) :: wg_L) rm_X3_fitBehind D cy sz (wc_X3_fitBehind cy q_t q_t_behind q_t_who q_t_grief q_a2 q_a2_kind q_a2_grief q_a2_bears q_a2_rota w_t w_a2) [.ref q_t, .int v1, .ref q_a2] (fun r (_ : Unit) => r = res) (fun (u : Unit) => wc_X3_fitBehind cy q_t q_t_behind q_t_who q_t_grief q_a2 q_a2_kind q_a2_grief q_a2_bears q_a2_rota w_t w_a2) := by
  refine Met.ofW (cc := cX3_fitBehind) (maxL := 4) (ret := (some .boolean)) (by decide) rfl ?_
  intro p e s m args below meth c s₁ B hml hv
  obtain ⟨rfl, hsz, hP, hK, hD0⟩ := hv
  subst hsz
  have hD := hD0.self (sz := s.heap.size)
  have hl := lv_entry ([.ref q_t, .int v1, .ref q_a2]) (n := 4) (Nat.le_of_ble_eq_true rfl)
  rw [lg_entry_eq]
  have C0 : cx_C cX3_fitBehind ((some .boolean)) 4 RX3 (.code yX3_fitBehind cX3_fitBehind 4 ((some .boolean)) :: wg_L) p s m [.ref q_t, .int v1, .ref q_a2].toArray meth c D cy (va_A (wc_X3_fitBehind cy q_t q_t_behind q_t_who q_t_grief q_a2 q_a2_kind q_a2_grief q_a2_bears q_a2_rota w_t w_a2) s.heap.size) := ⟨B.exec, B.bytes, B.returns, hml, findClass_of_methodNamed B.named, atoms_spec (ws := .code yX3_fitBehind cX3_fitBehind 4 ((some .boolean)) :: wg_L) B.pre, hK, B.notSynchronized, fun q h => Or.inr h⟩
  exact b_X3_fitBehind_0 C0 h hP hD va_S.rf (lv_sub hl [0, 1, 2] rfl)
/-! ### BarrowGrief$Sights.fit(LBarrowGrief$World;)Z -/
abbrev wc_X3_fit (cy : Nat → ClassId) (q_t q_t_behind q_t_who q_t_grief q_a1 q_a1_kind q_a1_grief q_a1_bears q_a1_rota : Nat) (w_t : s_V) (w_a1 : s_W) : va_W := [(q_t, .inr (3, [.ref q_t_behind, .ref q_t_who, .ref q_t_grief, .int w_t.1])), (q_t_behind, .inl (cy 1, 6, .inl w_t.2.1)), (q_t_who, .inl (cy 1, 6, .inl w_t.2.2.1)), (q_t_grief, .inl (cy 1, 6, .inl w_t.2.2.2)), (q_a1, .inr (5, [.ref q_a1_kind, .ref q_a1_grief, .ref q_a1_bears, .ref q_a1_rota, .int w_a1.1, .int w_a1.2.1, .int w_a1.2.2.1, .int w_a1.2.2.2.1, .int w_a1.2.2.2.2.1, .int w_a1.2.2.2.2.2.1, .int w_a1.2.2.2.2.2.2.1])), (q_a1_kind, .inl (cy 1, 5, .inl w_a1.2.2.2.2.2.2.2.1)), (q_a1_grief, .inl (cy 1, 5, .inl w_a1.2.2.2.2.2.2.2.2.1)), (q_a1_bears, .inl (cy 1, 5, .inl w_a1.2.2.2.2.2.2.2.2.2.1)), (q_a1_rota, .inl (cy 1, 8, .inl w_a1.2.2.2.2.2.2.2.2.2.2))]
abbrev rm_X3_fit : Room := { frames := 5, cells := 0, slots := 0, locals := 110 }
abbrev qq_X3_fit (below : List Frame) (args : Array Value) (s : State) (D : va_G) (cy : Nat → ClassId) (A : Nat → Prop) (q_t : Nat) (q_t_behind : Nat) (q_t_who : Nat) (q_t_grief : Nat) (q_a1 : Nat) (q_a1_kind : Nat) (q_a1_grief : Nat) (q_a1_bears : Nat) (q_a1_rota : Nat) (w_t : s_V) (res : Int32 × s_W) : State → Prop := MQ below (va_Qi (fun r (u : s_W) => r = res.1 ∧ u = res.2) (fun u t => st_B D cy A ((fun (u : s_W) => wc_X3_fit cy q_t q_t_behind q_t_who q_t_grief q_a1 q_a1_kind q_a1_grief q_a1_bears q_a1_rota w_t u) u) t) A) args s 0 0 A
def B_X3_fit_31 (k31 : s_W → Int32 → Int32 → Option (Int32 × s_W)) (w_t : s_V) (f : Nat) (w_a1 : s_W) (v2 : Int32) (v3 : Int32) : Option (Int32 × s_W) := if v2 < v3 then (some (1, w_a1)) else ((M_X3_fitBehind w_t w_a1 f v3).bind (fun u39 => if u39 = 0 then (some (0, w_a1)) else ((M_X5_passOne f w_a1).bind (fun u48 => k31 u48 v2 (v3 + 1)))))
set_option maxHeartbeats 4000000 in
set_option maxRecDepth 100000 in
theorem b_X3_fit_31 {p : Program} {l : Launch} {e : Env} {s : State} {m : MethodId} {args : Array Value} {below : List Frame} {meth : Method} {c : Code} {D : va_G} {cy : Nat → ClassId} {A : Nat → Prop} {q_t : Nat} {q_t_behind : Nat} {q_t_who : Nat} {q_t_grief : Nat} {q_a1 : Nat} {q_a1_kind : Nat} {q_a1_grief : Nat} {q_a1_bears : Nat} {q_a1_rota : Nat} {w_t : s_V} {res : Int32 × s_W} {k31 : s_W → Int32 → Int32 → Option (Int32 × s_W)} {f : Nat} {w_a1 : s_W} {v2 : Int32} {v3 : Int32} (C0 : cx_C cX3_fit ((some .boolean)) 4 RX3 (.code yX3_fit cX3_fit 4 ((some .boolean)) :: wg_L) p s m args meth c D cy A) (hk31 : ∀ (w_a1 : s_W) (v2 : Int32) (v3 : Int32), k31 w_a1 v2 v3 = some res → ∀ (H : Heap) (locs : List Loc) (ls : Array Slot), va_P D vwCl (wc_X3_fit cy q_t q_t_behind q_t_who q_t_grief q_a1 q_a1_kind q_a1_grief q_a1_bears q_a1_rota w_t w_a1) H → va_D A (wc_X3_fit cy q_t q_t_behind q_t_who q_t_grief q_a1 q_a1_kind q_a1_grief q_a1_bears q_a1_rota w_t w_a1) → va_S A s.heap H locs → lv_has ls 4 [(0, .ref q_t), (1, .ref q_a1), (2, .int v2), (3, .int v3)] → W p l e rm_X3_fit s m args below meth c H locs 0 0 (qq_X3_fit below args s D cy A q_t q_t_behind q_t_who q_t_grief q_a1 q_a1_kind q_a1_grief q_a1_bears q_a1_rota w_t res) (F0 m 31 ls [])) (h : B_X3_fit_31 k31 w_t f w_a1 v2 v3 = some res) {H : Heap} {locs : List Loc} {ls : Array Slot} (hP : va_P D vwCl (wc_X3_fit cy q_t q_t_behind q_t_who q_t_grief q_a1 q_a1_kind q_a1_grief q_a1_bears q_a1_rota w_t w_a1) H) (hD : va_D A (wc_X3_fit cy q_t q_t_behind q_t_who q_t_grief q_a1 q_a1_kind q_a1_grief q_a1_bears q_a1_rota w_t w_a1)) (hS : va_S A s.heap H locs) (hl : lv_has ls 4 [(0, .ref q_t), (1, .ref q_a1), (2, .int v2), (3, .int v3)]) : W p l e rm_X3_fit s m args below meth c H locs 0 0 (qq_X3_fit below args s D cy A q_t q_t_behind q_t_who q_t_grief q_a1 q_a1_kind q_a1_grief q_a1_bears q_a1_rota w_t res) (F0 m 31 ls []) := by
  obtain ⟨hx, hb, hr, hml, hown, hts, hK, hlocks, hA⟩ := id C0
  unfold B_X3_fit_31 at h
  refine lv_iload_n hx hb dX3_fit_31 rfl (lv_at hl 3 rfl) ?_
  refine lv_iload_n hx hb dX3_fit_32 rfl (lv_at hl 2 rfl) ?_
  refine lv_icmp_gt (tgt := 57) hx hb dX3_fit_33 (by decide) (fun c33 => ?_) (fun c33 => ?_)
  · replace h := it_p c33 h
    refine lv_iconst (v := 1) hx hb dX3_fit_57 (by decide) ?_
    obtain rfl := Option.some.inj h
    exact W.zret (v := 1) hx hb hr (by decide) (fun tt ht hW => ⟨⟨1, w_a1, rfl, ⟨rfl, rfl⟩, by rw [ht]; exact hP, kk_warm hW hK, hD⟩, hS.F ht⟩) hS.2.2 dX3_fit_58
  · replace h := it_n c33 h
    refine lv_aload_n hx hb dX3_fit_36 rfl (lv_at hl 0 rfl) ?_
    refine lv_iload_n hx hb dX3_fit_37 rfl (lv_at hl 3 rfl) ?_
    refine lv_aload_n hx hb dX3_fit_38 rfl (lv_at hl 1 rfl) ?_
    obtain ⟨u39, hc39, h⟩ := bd_d h
    have hPc := hP.sub (ws' := wc_X3_fitBehind cy q_t q_t_behind q_t_who q_t_grief q_a1 q_a1_kind q_a1_grief q_a1_bears q_a1_rota w_t w_a1) [0, 1, 2, 3, 4, 5, 6, 7, 8] rfl
    have hDc := hD.sub (ws' := wc_X3_fitBehind cy q_t q_t_behind q_t_who q_t_grief q_a1 q_a1_kind q_a1_grief q_a1_bears q_a1_rota w_t w_a1) [0, 1, 2, 3, 4, 5, 6, 7, 8] (by decide) rfl
    refine cl_i (fun (u : Unit) => wc_X3_fit cy q_t q_t_behind q_t_who q_t_grief q_a1 q_a1_kind q_a1_grief q_a1_bears q_a1_rota w_t w_a1) (va_runV (As := [.int v3, .ref q_a1]) (rest := []) (C := RX3) ⟨hx, hb, hml, hown, hts⟩ (c_X3_fitBehind l D cy H.size q_t q_t_behind q_t_who q_t_grief q_a1 q_a1_kind q_a1_grief q_a1_bears q_a1_rota w_t w_a1 v3 hc39) ⟨callB_of 2 hts (wg_in k_604) rfl rfl rfl (hts _ (List.mem_cons_of_mem _ k_3)) (hts _ (List.mem_cons_of_mem _ k_601)) (by decide +kernel) ⟨by decide, by decide⟩, (hts _ (List.mem_cons_of_mem _ k_603)), (hts _ (List.mem_cons_of_mem _ ks_16))⟩ ⟨st_blind, va_recv hK.1 hPc (ci := 3) (q0 := 0) rfl rfl, fun U hU hW => st_pre hK hPc hDc hU hW⟩ rfl rfl hl.1 rfl (lv_room (Nat.le_of_ble_eq_true rfl)) dX3_fit_39 ⟨by decide, by decide⟩) hP hD hS hA [0, 1, 2, 3, 4, 5, 6, 7, 8] [] [0, 1, 2, 3, 4, 5, 6, 7, 8] rfl rfl (by decide) (by decide) (by decide) (fun _ => rfl) (fun r u H locs hw hP hD hS => ?_)
    obtain rfl := hw.symm
    refine lv_if_ne (tgt := 47) hx hb dX3_fit_42 (by decide) (fun c42 => ?_) (fun c42 => ?_)
    · replace h := it_n c42 h
      refine lv_aload_n hx hb dX3_fit_47 rfl (lv_at hl 1 rfl) ?_
      obtain ⟨u48, hc48, h⟩ := bd_d h
      have hPc := hP.sub (ws' := wc_X5_passOne cy q_a1 q_a1_kind q_a1_grief q_a1_bears q_a1_rota w_a1) [4, 5, 6, 7, 8] rfl
      have hDc := hD.sub (ws' := wc_X5_passOne cy q_a1 q_a1_kind q_a1_grief q_a1_bears q_a1_rota w_a1) [4, 5, 6, 7, 8] (by decide) rfl
      refine cl_v (fun (u : s_W) => wc_X3_fit cy q_t q_t_behind q_t_who q_t_grief q_a1 q_a1_kind q_a1_grief q_a1_bears q_a1_rota w_t u) (va_runV (As := []) (rest := []) (C := RX5) ⟨hx, hb, hml, hown, hts⟩ (c_X5_passOne l D cy H.size q_a1 q_a1_kind q_a1_grief q_a1_bears q_a1_rota w_a1 hc48) ⟨callB_of 0 hts (wg_in k_463) rfl rfl rfl (hts _ (List.mem_cons_of_mem _ k_2)) (hts _ (List.mem_cons_of_mem _ k_606)) (by decide +kernel) ⟨by decide, by decide⟩, (hts _ (List.mem_cons_of_mem _ k_461)), (hts _ (List.mem_cons_of_mem _ k_462))⟩ ⟨st_blind, va_recv hK.1 hPc (ci := 5) (q0 := 0) rfl rfl, fun U hU hW => st_pre hK hPc hDc hU hW⟩ rfl rfl hl.1 rfl (lv_room (Nat.le_of_ble_eq_true rfl)) dX3_fit_48 ⟨by decide, by decide⟩) hP hD hS hA [4, 5, 6, 7, 8] [0, 1, 2, 3] [0, 1, 2, 3, 4, 5, 6, 7, 8] rfl rfl (by decide) (by decide) (by decide) (fun _ => rfl) (fun u H locs hw hP hD hS => ?_)
      obtain rfl := hw.symm
      have hP : va_P D vwCl (wc_X3_fit cy q_t q_t_behind q_t_who q_t_grief q_a1 q_a1_kind q_a1_grief q_a1_bears q_a1_rota w_t u48) H := hP
      have hD : va_D A (wc_X3_fit cy q_t q_t_behind q_t_who q_t_grief q_a1 q_a1_kind q_a1_grief q_a1_bears q_a1_rota w_t u48) := hD
      refine lv_iinc (v := (v3 + 1)) (lv' := [(3, .int (v3 + 1)), (0, .ref q_t), (1, .ref q_a1), (2, .int v2)]) hx hb dX3_fit_51 hl (k := 3) rfl (by rfl) (by decide) rfl (fun ls hl => ?_)
      refine lv_goto (tgt := 31) hx hb dX3_fit_54 (by decide) ?_
      exact hk31 _ _ _ h _ _ _ hP hD hS (lv_sub hl [1, 2, 3, 0] rfl)
    · replace h := it_p c42 h
      refine lv_iconst (v := 0) hx hb dX3_fit_45 (by decide) ?_
      obtain rfl := Option.some.inj h
      exact W.zret (v := 0) hx hb hr (by decide) (fun tt ht hW => ⟨⟨0, w_a1, rfl, ⟨rfl, rfl⟩, by rw [ht]; exact hP, kk_warm hW hK, hD⟩, hS.F ht⟩) hS.2.2 dX3_fit_46
def M_X3_fit_31  (w_t : s_V) : Nat → s_W → Int32 → Int32 → Option (Int32 × s_W)
  | 0, _, _, _ => none
  | f + 1, w_a1, v2, v3 => B_X3_fit_31 (M_X3_fit_31 w_t f) w_t f w_a1 v2 v3
theorem t_X3_fit_31 {p : Program} {l : Launch} {e : Env} {s : State} {m : MethodId} {args : Array Value} {below : List Frame} {meth : Method} {c : Code} {D : va_G} {cy : Nat → ClassId} {A : Nat → Prop} {q_t : Nat} {q_t_behind : Nat} {q_t_who : Nat} {q_t_grief : Nat} {q_a1 : Nat} {q_a1_kind : Nat} {q_a1_grief : Nat} {q_a1_bears : Nat} {q_a1_rota : Nat} {w_t : s_V} {res : Int32 × s_W}  (C0 : cx_C cX3_fit ((some .boolean)) 4 RX3 (.code yX3_fit cX3_fit 4 ((some .boolean)) :: wg_L) p s m args meth c D cy A)  : ∀ (f : Nat) (w_a1 : s_W) (v2 : Int32) (v3 : Int32), M_X3_fit_31 w_t f w_a1 v2 v3 = some res → ∀ (H : Heap) (locs : List Loc) (ls : Array Slot), va_P D vwCl (wc_X3_fit cy q_t q_t_behind q_t_who q_t_grief q_a1 q_a1_kind q_a1_grief q_a1_bears q_a1_rota w_t w_a1) H → va_D A (wc_X3_fit cy q_t q_t_behind q_t_who q_t_grief q_a1 q_a1_kind q_a1_grief q_a1_bears q_a1_rota w_t w_a1) → va_S A s.heap H locs → lv_has ls 4 [(0, .ref q_t), (1, .ref q_a1), (2, .int v2), (3, .int v3)] → W p l e rm_X3_fit s m args below meth c H locs 0 0 (qq_X3_fit below args s D cy A q_t q_t_behind q_t_who q_t_grief q_a1 q_a1_kind q_a1_grief q_a1_bears q_a1_rota w_t res) (F0 m 31 ls []) := by
  intro f
  induction f with
  | zero =>
    intro _ _ _ h
    exact absurd (show (none : Option (Int32 × s_W)) = some res from h) (fun q => by cases q)
  | succ f ih =>
    intro w_a1 v2 v3 h H locs ls hP hD hS hl
    have h : B_X3_fit_31 (M_X3_fit_31 w_t f) w_t f w_a1 v2 v3 = some res := h
    exact b_X3_fit_31 C0 ih h hP hD hS hl
def B_X3_fit_4 (k4 : s_W → Int32 → Int32 → Option (Int32 × s_W)) (w_t : s_V) (f : Nat) (w_a1 : s_W) (v2 : Int32) (v3 : Int32) : Option (Int32 × s_W) := if w_t.1 ≤ v3 then (M_X3_fit_31 w_t f w_a1 v2 0) else (gi_n v3 6 (nm_v (if v2 < (w_t.2.1 v3.toNatClampNeg) then (w_t.2.1 v3.toNatClampNeg) else v2) (fun v2_22 => k4 w_a1 v2_22 (v3 + 1))))
set_option maxHeartbeats 4000000 in
set_option maxRecDepth 100000 in
theorem b_X3_fit_4 {p : Program} {l : Launch} {e : Env} {s : State} {m : MethodId} {args : Array Value} {below : List Frame} {meth : Method} {c : Code} {D : va_G} {cy : Nat → ClassId} {A : Nat → Prop} {q_t : Nat} {q_t_behind : Nat} {q_t_who : Nat} {q_t_grief : Nat} {q_a1 : Nat} {q_a1_kind : Nat} {q_a1_grief : Nat} {q_a1_bears : Nat} {q_a1_rota : Nat} {w_t : s_V} {res : Int32 × s_W} {k4 : s_W → Int32 → Int32 → Option (Int32 × s_W)} {f : Nat} {w_a1 : s_W} {v2 : Int32} {v3 : Int32} (C0 : cx_C cX3_fit ((some .boolean)) 4 RX3 (.code yX3_fit cX3_fit 4 ((some .boolean)) :: wg_L) p s m args meth c D cy A) (hk4 : ∀ (w_a1 : s_W) (v2 : Int32) (v3 : Int32), k4 w_a1 v2 v3 = some res → ∀ (H : Heap) (locs : List Loc) (ls : Array Slot), va_P D vwCl (wc_X3_fit cy q_t q_t_behind q_t_who q_t_grief q_a1 q_a1_kind q_a1_grief q_a1_bears q_a1_rota w_t w_a1) H → va_D A (wc_X3_fit cy q_t q_t_behind q_t_who q_t_grief q_a1 q_a1_kind q_a1_grief q_a1_bears q_a1_rota w_t w_a1) → va_S A s.heap H locs → lv_has ls 4 [(0, .ref q_t), (1, .ref q_a1), (2, .int v2), (3, .int v3)] → W p l e rm_X3_fit s m args below meth c H locs 0 0 (qq_X3_fit below args s D cy A q_t q_t_behind q_t_who q_t_grief q_a1 q_a1_kind q_a1_grief q_a1_bears q_a1_rota w_t res) (F0 m 4 ls [])) (h : B_X3_fit_4 k4 w_t f w_a1 v2 v3 = some res) {H : Heap} {locs : List Loc} {ls : Array Slot} (hP : va_P D vwCl (wc_X3_fit cy q_t q_t_behind q_t_who q_t_grief q_a1 q_a1_kind q_a1_grief q_a1_bears q_a1_rota w_t w_a1) H) (hD : va_D A (wc_X3_fit cy q_t q_t_behind q_t_who q_t_grief q_a1 q_a1_kind q_a1_grief q_a1_bears q_a1_rota w_t w_a1)) (hS : va_S A s.heap H locs) (hl : lv_has ls 4 [(0, .ref q_t), (1, .ref q_a1), (2, .int v2), (3, .int v3)]) : W p l e rm_X3_fit s m args below meth c H locs 0 0 (qq_X3_fit below args s D cy A q_t q_t_behind q_t_who q_t_grief q_a1 q_a1_kind q_a1_grief q_a1_bears q_a1_rota w_t res) (F0 m 4 ls []) := by
  obtain ⟨hx, hb, hr, hml, hown, hts, hK, hlocks, hA⟩ := id C0
  unfold B_X3_fit_4 at h
  refine lv_iload_n hx hb dX3_fit_4 rfl (lv_at hl 3 rfl) ?_
  refine lv_aload_n hx hb dX3_fit_5 rfl (lv_at hl 0 rfl) ?_
  refine va_get (D := D) (ci := 3) (v := .int w_t.1) (C := RX3) (T := TX3) (N := 4) hx hb hts (fun w hw => List.mem_cons_of_mem _ (uw_X3 w hw)) hown hK.1 hP 0 rfl rfl 3 (by decide) (hts _ (List.mem_cons_of_mem _ k_93)) (fun _ h9 => h9) rfl dX3_fit_6 ?_
  refine lv_icmp_ge (tgt := 29) hx hb dX3_fit_9 (by decide) (fun c9 => ?_) (fun c9 => ?_)
  · replace h := it_p c9 h
    refine lv_iconst (v := 0) hx hb dX3_fit_29 (by decide) ?_
    refine lv_istore_n (lv' := [(3, .int 0), (0, .ref q_t), (1, .ref q_a1), (2, .int v2)]) hx hb dX3_fit_30 rfl hl (by decide) rfl (fun ls hl => ?_)
    exact t_X3_fit_31 C0 _ _ _ _ h _ _ _ hP hD hS (lv_sub hl [1, 2, 3, 0] rfl)
  · replace h := it_n c9 h
    refine lv_iload_n hx hb dX3_fit_12 rfl (lv_at hl 2 rfl) ?_
    refine lv_aload_n hx hb dX3_fit_13 rfl (lv_at hl 0 rfl) ?_
    refine va_get (D := D) (ci := 3) (v := .ref q_t_behind) (C := RX3) (T := TX3) (N := 4) hx hb hts (fun w hw => List.mem_cons_of_mem _ (uw_X3 w hw)) hown hK.1 hP 0 rfl rfl 0 (by decide) (hts _ (List.mem_cons_of_mem _ k_90)) (fun _ h9 => h9) rfl dX3_fit_14 ?_
    refine lv_iload_n hx hb dX3_fit_17 rfl (lv_at hl 3 rfl) ?_
    obtain ⟨hi1, h⟩ := gi_d h
    refine va_iald hx hb hK.1 hP 1 1 rfl rfl hi1 dX3_fit_18 ?_
    refine va_mmax (own := RX3) hx hb (by rw [hml]; exact hl.1.symm) hown (hts _ (List.mem_cons_of_mem _ k_600)) (hts _ (List.mem_cons_of_mem _ k_471)) (hts _ (List.mem_cons_of_mem _ k_14)) (hts _ (List.mem_cons_of_mem _ k_472)) (by decide) (Nat.le_of_ble_eq_true rfl) (by decide) (by decide) dX3_fit_19 ?_
    refine lv_topi (fun v2_22 ev2_22 => ?_)
    replace h := nm_d ev2_22 h
    refine lv_istore_n (lv' := [(2, .int v2_22), (0, .ref q_t), (1, .ref q_a1), (3, .int v3)]) hx hb dX3_fit_22 rfl hl (by decide) rfl (fun ls hl => ?_)
    refine lv_iinc (v := (v3 + 1)) (lv' := [(3, .int (v3 + 1)), (2, .int v2_22), (0, .ref q_t), (1, .ref q_a1)]) hx hb dX3_fit_23 hl (k := 3) rfl (by rfl) (by decide) rfl (fun ls hl => ?_)
    refine lv_goto (tgt := 4) hx hb dX3_fit_26 (by decide) ?_
    exact hk4 _ _ _ h _ _ _ hP hD hS (lv_sub hl [2, 3, 1, 0] rfl)
def M_X3_fit_4  (w_t : s_V) : Nat → s_W → Int32 → Int32 → Option (Int32 × s_W)
  | 0, _, _, _ => none
  | f + 1, w_a1, v2, v3 => B_X3_fit_4 (M_X3_fit_4 w_t f) w_t f w_a1 v2 v3
theorem t_X3_fit_4 {p : Program} {l : Launch} {e : Env} {s : State} {m : MethodId} {args : Array Value} {below : List Frame} {meth : Method} {c : Code} {D : va_G} {cy : Nat → ClassId} {A : Nat → Prop} {q_t : Nat} {q_t_behind : Nat} {q_t_who : Nat} {q_t_grief : Nat} {q_a1 : Nat} {q_a1_kind : Nat} {q_a1_grief : Nat} {q_a1_bears : Nat} {q_a1_rota : Nat} {w_t : s_V} {res : Int32 × s_W}  (C0 : cx_C cX3_fit ((some .boolean)) 4 RX3 (.code yX3_fit cX3_fit 4 ((some .boolean)) :: wg_L) p s m args meth c D cy A)  : ∀ (f : Nat) (w_a1 : s_W) (v2 : Int32) (v3 : Int32), M_X3_fit_4 w_t f w_a1 v2 v3 = some res → ∀ (H : Heap) (locs : List Loc) (ls : Array Slot), va_P D vwCl (wc_X3_fit cy q_t q_t_behind q_t_who q_t_grief q_a1 q_a1_kind q_a1_grief q_a1_bears q_a1_rota w_t w_a1) H → va_D A (wc_X3_fit cy q_t q_t_behind q_t_who q_t_grief q_a1 q_a1_kind q_a1_grief q_a1_bears q_a1_rota w_t w_a1) → va_S A s.heap H locs → lv_has ls 4 [(0, .ref q_t), (1, .ref q_a1), (2, .int v2), (3, .int v3)] → W p l e rm_X3_fit s m args below meth c H locs 0 0 (qq_X3_fit below args s D cy A q_t q_t_behind q_t_who q_t_grief q_a1 q_a1_kind q_a1_grief q_a1_bears q_a1_rota w_t res) (F0 m 4 ls []) := by
  intro f
  induction f with
  | zero =>
    intro _ _ _ h
    exact absurd (show (none : Option (Int32 × s_W)) = some res from h) (fun q => by cases q)
  | succ f ih =>
    intro w_a1 v2 v3 h H locs ls hP hD hS hl
    have h : B_X3_fit_4 (M_X3_fit_4 w_t f) w_t f w_a1 v2 v3 = some res := h
    exact b_X3_fit_4 C0 ih h hP hD hS hl
def B_X3_fit_0  (w_t : s_V) (f : Nat) (w_a1 : s_W)  : Option (Int32 × s_W) := M_X3_fit_4 w_t f w_a1 (-1) 0
set_option maxHeartbeats 4000000 in
set_option maxRecDepth 100000 in
theorem b_X3_fit_0 {p : Program} {l : Launch} {e : Env} {s : State} {m : MethodId} {args : Array Value} {below : List Frame} {meth : Method} {c : Code} {D : va_G} {cy : Nat → ClassId} {A : Nat → Prop} {q_t : Nat} {q_t_behind : Nat} {q_t_who : Nat} {q_t_grief : Nat} {q_a1 : Nat} {q_a1_kind : Nat} {q_a1_grief : Nat} {q_a1_bears : Nat} {q_a1_rota : Nat} {w_t : s_V} {res : Int32 × s_W}  {f : Nat} {w_a1 : s_W}  (C0 : cx_C cX3_fit ((some .boolean)) 4 RX3 (.code yX3_fit cX3_fit 4 ((some .boolean)) :: wg_L) p s m args meth c D cy A)  (h : B_X3_fit_0 w_t f w_a1 = some res) {H : Heap} {locs : List Loc} {ls : Array Slot} (hP : va_P D vwCl (wc_X3_fit cy q_t q_t_behind q_t_who q_t_grief q_a1 q_a1_kind q_a1_grief q_a1_bears q_a1_rota w_t w_a1) H) (hD : va_D A (wc_X3_fit cy q_t q_t_behind q_t_who q_t_grief q_a1 q_a1_kind q_a1_grief q_a1_bears q_a1_rota w_t w_a1)) (hS : va_S A s.heap H locs) (hl : lv_has ls 4 [(0, .ref q_t), (1, .ref q_a1)]) : W p l e rm_X3_fit s m args below meth c H locs 0 0 (qq_X3_fit below args s D cy A q_t q_t_behind q_t_who q_t_grief q_a1 q_a1_kind q_a1_grief q_a1_bears q_a1_rota w_t res) (F0 m 0 ls []) := by
  obtain ⟨hx, hb, hr, hml, hown, hts, hK, hlocks, hA⟩ := id C0
  unfold B_X3_fit_0 at h
  refine lv_iconst (v := (-1)) hx hb dX3_fit_0 (by decide) ?_
  refine lv_istore_n (lv' := [(2, .int (-1)), (0, .ref q_t), (1, .ref q_a1)]) hx hb dX3_fit_1 rfl hl (by decide) rfl (fun ls hl => ?_)
  refine lv_iconst (v := 0) hx hb dX3_fit_2 (by decide) ?_
  refine lv_istore_n (lv' := [(3, .int 0), (2, .int (-1)), (0, .ref q_t), (1, .ref q_a1)]) hx hb dX3_fit_3 rfl hl (by decide) rfl (fun ls hl => ?_)
  exact t_X3_fit_4 C0 _ _ _ _ h _ _ _ hP hD hS (lv_sub hl [2, 3, 1, 0] rfl)
def M_X3_fit  (w_t : s_V) (f : Nat) (w_a1 : s_W)  : Option (Int32 × s_W) := B_X3_fit_0 w_t f w_a1
set_option maxHeartbeats 4000000 in
set_option maxRecDepth 100000 in
theorem c_X3_fit (l : Launch) (D : va_G) (cy : Nat → ClassId) (sz : Nat) (q_t : Nat) (q_t_behind : Nat) (q_t_who : Nat) (q_t_grief : Nat) (q_a1 : Nat) (q_a1_kind : Nat) (q_a1_grief : Nat) (q_a1_bears : Nat) (q_a1_rota : Nat) (w_t : s_V) (w_a1 : s_W)  {f : Nat} {res : Int32 × s_W} (h : M_X3_fit w_t f w_a1 = some res) : ct_i l yX3_fit (.code yX3_fit cX3_fit 4 ((some .boolean)) :: wg_L) rm_X3_fit D cy sz (wc_X3_fit cy q_t q_t_behind q_t_who q_t_grief q_a1 q_a1_kind q_a1_grief q_a1_bears q_a1_rota w_t w_a1) [.ref q_t, .ref q_a1] (fun r (u : s_W) => r = res.1 ∧ u = res.2) (fun (u : s_W) => wc_X3_fit cy q_t q_t_behind q_t_who q_t_grief q_a1 q_a1_kind q_a1_grief q_a1_bears q_a1_rota w_t u) := by
  refine Met.ofW (cc := cX3_fit) (maxL := 4) (ret := (some .boolean)) (by decide) rfl ?_
  intro p e s m args below meth c s₁ B hml hv
  obtain ⟨rfl, hsz, hP, hK, hD0⟩ := hv
  subst hsz
  have hD := hD0.self (sz := s.heap.size)
  have hl := lv_entry ([.ref q_t, .ref q_a1]) (n := 4) (Nat.le_of_ble_eq_true rfl)
  rw [lg_entry_eq]
  have C0 : cx_C cX3_fit ((some .boolean)) 4 RX3 (.code yX3_fit cX3_fit 4 ((some .boolean)) :: wg_L) p s m [.ref q_t, .ref q_a1].toArray meth c D cy (va_A (wc_X3_fit cy q_t q_t_behind q_t_who q_t_grief q_a1 q_a1_kind q_a1_grief q_a1_bears q_a1_rota w_t w_a1) s.heap.size) := ⟨B.exec, B.bytes, B.returns, hml, findClass_of_methodNamed B.named, atoms_spec (ws := .code yX3_fit cX3_fit 4 ((some .boolean)) :: wg_L) B.pre, hK, B.notSynchronized, fun q h => Or.inr h⟩
  exact b_X3_fit_0 C0 h hP hD va_S.rf (lv_sub hl [0, 1] rfl)
/-! ### BarrowGrief$Sheet.isNothing()Z -/
abbrev wc_X2_isNothing (cy : Nat → ClassId) (q_t q_t_cells : Nat) (w_t : s_S) : va_W := [(q_t, .inr (2, [.ref q_t_cells, .int w_t.1, .int w_t.2.1])), (q_t_cells, .inl (cy 1, 40, .inl w_t.2.2))]
abbrev rm_X2_isNothing : Room := { frames := 0, cells := 0, slots := 0, locals := 0 }
abbrev qq_X2_isNothing (below : List Frame) (args : Array Value) (s : State) (D : va_G) (cy : Nat → ClassId) (A : Nat → Prop) (q_t : Nat) (q_t_cells : Nat) (w_t : s_S) (res : Int32) : State → Prop := MQ below (va_Qi (fun r (_ : Unit) => r = res) (fun u t => st_B D cy A ((fun (u : Unit) => wc_X2_isNothing cy q_t q_t_cells w_t) u) t) A) args s 0 0 A
def B_X2_isNothing_0  (w_t : s_S)    : Option (Int32) := if w_t.1 = (-1) then (some 1) else (some 0)
set_option maxHeartbeats 4000000 in
set_option maxRecDepth 100000 in
theorem b_X2_isNothing_0 {p : Program} {l : Launch} {e : Env} {s : State} {m : MethodId} {args : Array Value} {below : List Frame} {meth : Method} {c : Code} {D : va_G} {cy : Nat → ClassId} {A : Nat → Prop} {q_t : Nat} {q_t_cells : Nat} {w_t : s_S} {res : Int32}     (C0 : cx_C cX2_isNothing ((some .boolean)) 1 RX2 (.code yX2_isNothing cX2_isNothing 1 ((some .boolean)) :: wg_L) p s m args meth c D cy A)  (h : B_X2_isNothing_0 w_t = some res) {H : Heap} {locs : List Loc} {ls : Array Slot} (hP : va_P D vwCl (wc_X2_isNothing cy q_t q_t_cells w_t) H) (hD : va_D A (wc_X2_isNothing cy q_t q_t_cells w_t)) (hS : va_S A s.heap H locs) (hl : lv_has ls 1 [(0, .ref q_t)]) : W p l e rm_X2_isNothing s m args below meth c H locs 0 0 (qq_X2_isNothing below args s D cy A q_t q_t_cells w_t res) (F0 m 0 ls []) := by
  obtain ⟨hx, hb, hr, hml, hown, hts, hK, hlocks, hA⟩ := id C0
  unfold B_X2_isNothing_0 at h
  refine lv_aload_n hx hb dX2_isNothing_0 rfl (lv_at hl 0 rfl) ?_
  refine va_get (D := D) (ci := 2) (v := .int w_t.1) (C := RX2) (T := TX2) (N := 3) hx hb hts (fun w hw => List.mem_cons_of_mem _ (uw_X2 w hw)) hown hK.1 hP 0 rfl rfl 1 (by decide) (hts _ (List.mem_cons_of_mem _ k_192)) (fun _ h9 => h9) rfl dX2_isNothing_1 ?_
  refine lv_iconst (v := (-1)) hx hb dX2_isNothing_4 (by decide) ?_
  refine lv_icmp_ne (tgt := 12) hx hb dX2_isNothing_5 (by decide) (fun c5 => ?_) (fun c5 => ?_)
  · replace h := it_n c5 h
    refine lv_iconst (v := 0) hx hb dX2_isNothing_12 (by decide) ?_
    obtain rfl := Option.some.inj h
    exact W.zret (v := 0) hx hb hr (by decide) (fun tt ht hW => ⟨⟨0, (), rfl, rfl, by rw [ht]; exact hP, kk_warm hW hK, hD⟩, hS.F ht⟩) hS.2.2 dX2_isNothing_13
  · replace h := it_p c5 h
    refine lv_iconst (v := 1) hx hb dX2_isNothing_8 (by decide) ?_
    refine lv_goto (tgt := 13) hx hb dX2_isNothing_9 (by decide) ?_
    obtain rfl := Option.some.inj h
    exact W.zret (v := 1) hx hb hr (by decide) (fun tt ht hW => ⟨⟨1, (), rfl, rfl, by rw [ht]; exact hP, kk_warm hW hK, hD⟩, hS.F ht⟩) hS.2.2 dX2_isNothing_13
def M_X2_isNothing  (w_t : s_S)    : Option (Int32) := B_X2_isNothing_0 w_t
set_option maxHeartbeats 4000000 in
set_option maxRecDepth 100000 in
theorem c_X2_isNothing (l : Launch) (D : va_G) (cy : Nat → ClassId) (sz : Nat) (q_t : Nat) (q_t_cells : Nat) (w_t : s_S)   {res : Int32} (h : M_X2_isNothing w_t = some res) : ct_i l yX2_isNothing (.code yX2_isNothing cX2_isNothing 1 ((some .boolean)) :: wg_L) rm_X2_isNothing D cy sz (wc_X2_isNothing cy q_t q_t_cells w_t) [.ref q_t] (fun r (_ : Unit) => r = res) (fun (u : Unit) => wc_X2_isNothing cy q_t q_t_cells w_t) := by
  refine Met.ofW (cc := cX2_isNothing) (maxL := 1) (ret := (some .boolean)) (by decide) rfl ?_
  intro p e s m args below meth c s₁ B hml hv
  obtain ⟨rfl, hsz, hP, hK, hD0⟩ := hv
  subst hsz
  have hD := hD0.self (sz := s.heap.size)
  have hl := lv_entry ([.ref q_t]) (n := 1) (Nat.le_of_ble_eq_true rfl)
  rw [lg_entry_eq]
  have C0 : cx_C cX2_isNothing ((some .boolean)) 1 RX2 (.code yX2_isNothing cX2_isNothing 1 ((some .boolean)) :: wg_L) p s m [.ref q_t].toArray meth c D cy (va_A (wc_X2_isNothing cy q_t q_t_cells w_t) s.heap.size) := ⟨B.exec, B.bytes, B.returns, hml, findClass_of_methodNamed B.named, atoms_spec (ws := .code yX2_isNothing cX2_isNothing 1 ((some .boolean)) :: wg_L) B.pre, hK, B.notSynchronized, fun q h => Or.inr h⟩
  exact b_X2_isNothing_0 C0 h hP hD va_S.rf (lv_sub hl [0] rfl)
/-! ### BarrowGrief$Sheet.isOther(I)Z -/
abbrev wc_X2_isOther (cy : Nat → ClassId) (q_t q_t_cells : Nat) (w_t : s_S) : va_W := [(q_t, .inr (2, [.ref q_t_cells, .int w_t.1, .int w_t.2.1])), (q_t_cells, .inl (cy 1, 40, .inl w_t.2.2))]
abbrev rm_X2_isOther : Room := { frames := 0, cells := 0, slots := 0, locals := 0 }
abbrev qq_X2_isOther (below : List Frame) (args : Array Value) (s : State) (D : va_G) (cy : Nat → ClassId) (A : Nat → Prop) (q_t : Nat) (q_t_cells : Nat) (w_t : s_S) (res : Int32) : State → Prop := MQ below (va_Qi (fun r (_ : Unit) => r = res) (fun u t => st_B D cy A ((fun (u : Unit) => wc_X2_isOther cy q_t q_t_cells w_t) u) t) A) args s 0 0 A
def B_X2_isOther_0  (w_t : s_S)   (v1 : Int32) : Option (Int32) := if w_t.1 = (-1) then (some 0) else (if w_t.1 = v1 then (some 0) else (some 1))
set_option maxHeartbeats 4000000 in
set_option maxRecDepth 100000 in
theorem b_X2_isOther_0 {p : Program} {l : Launch} {e : Env} {s : State} {m : MethodId} {args : Array Value} {below : List Frame} {meth : Method} {c : Code} {D : va_G} {cy : Nat → ClassId} {A : Nat → Prop} {q_t : Nat} {q_t_cells : Nat} {w_t : s_S} {res : Int32}    {v1 : Int32} (C0 : cx_C cX2_isOther ((some .boolean)) 2 RX2 (.code yX2_isOther cX2_isOther 2 ((some .boolean)) :: wg_L) p s m args meth c D cy A)  (h : B_X2_isOther_0 w_t v1 = some res) {H : Heap} {locs : List Loc} {ls : Array Slot} (hP : va_P D vwCl (wc_X2_isOther cy q_t q_t_cells w_t) H) (hD : va_D A (wc_X2_isOther cy q_t q_t_cells w_t)) (hS : va_S A s.heap H locs) (hl : lv_has ls 2 [(0, .ref q_t), (1, .int v1)]) : W p l e rm_X2_isOther s m args below meth c H locs 0 0 (qq_X2_isOther below args s D cy A q_t q_t_cells w_t res) (F0 m 0 ls []) := by
  obtain ⟨hx, hb, hr, hml, hown, hts, hK, hlocks, hA⟩ := id C0
  unfold B_X2_isOther_0 at h
  refine lv_aload_n hx hb dX2_isOther_0 rfl (lv_at hl 0 rfl) ?_
  refine va_get (D := D) (ci := 2) (v := .int w_t.1) (C := RX2) (T := TX2) (N := 3) hx hb hts (fun w hw => List.mem_cons_of_mem _ (uw_X2 w hw)) hown hK.1 hP 0 rfl rfl 1 (by decide) (hts _ (List.mem_cons_of_mem _ k_192)) (fun _ h9 => h9) rfl dX2_isOther_1 ?_
  refine lv_iconst (v := (-1)) hx hb dX2_isOther_4 (by decide) ?_
  refine lv_icmp_eq (tgt := 20) hx hb dX2_isOther_5 (by decide) (fun c5 => ?_) (fun c5 => ?_)
  · replace h := it_p c5 h
    refine lv_iconst (v := 0) hx hb dX2_isOther_20 (by decide) ?_
    obtain rfl := Option.some.inj h
    exact W.zret (v := 0) hx hb hr (by decide) (fun tt ht hW => ⟨⟨0, (), rfl, rfl, by rw [ht]; exact hP, kk_warm hW hK, hD⟩, hS.F ht⟩) hS.2.2 dX2_isOther_21
  · replace h := it_n c5 h
    refine lv_aload_n hx hb dX2_isOther_8 rfl (lv_at hl 0 rfl) ?_
    refine va_get (D := D) (ci := 2) (v := .int w_t.1) (C := RX2) (T := TX2) (N := 3) hx hb hts (fun w hw => List.mem_cons_of_mem _ (uw_X2 w hw)) hown hK.1 hP 0 rfl rfl 1 (by decide) (hts _ (List.mem_cons_of_mem _ k_192)) (fun _ h9 => h9) rfl dX2_isOther_9 ?_
    refine lv_iload_n hx hb dX2_isOther_12 rfl (lv_at hl 1 rfl) ?_
    refine lv_icmp_eq (tgt := 20) hx hb dX2_isOther_13 (by decide) (fun c13 => ?_) (fun c13 => ?_)
    · replace h := it_p c13 h
      refine lv_iconst (v := 0) hx hb dX2_isOther_20 (by decide) ?_
      obtain rfl := Option.some.inj h
      exact W.zret (v := 0) hx hb hr (by decide) (fun tt ht hW => ⟨⟨0, (), rfl, rfl, by rw [ht]; exact hP, kk_warm hW hK, hD⟩, hS.F ht⟩) hS.2.2 dX2_isOther_21
    · replace h := it_n c13 h
      refine lv_iconst (v := 1) hx hb dX2_isOther_16 (by decide) ?_
      refine lv_goto (tgt := 21) hx hb dX2_isOther_17 (by decide) ?_
      obtain rfl := Option.some.inj h
      exact W.zret (v := 1) hx hb hr (by decide) (fun tt ht hW => ⟨⟨1, (), rfl, rfl, by rw [ht]; exact hP, kk_warm hW hK, hD⟩, hS.F ht⟩) hS.2.2 dX2_isOther_21
def M_X2_isOther  (w_t : s_S)   (v1 : Int32) : Option (Int32) := B_X2_isOther_0 w_t v1
set_option maxHeartbeats 4000000 in
set_option maxRecDepth 100000 in
theorem c_X2_isOther (l : Launch) (D : va_G) (cy : Nat → ClassId) (sz : Nat) (q_t : Nat) (q_t_cells : Nat) (w_t : s_S) (v1 : Int32)  {res : Int32} (h : M_X2_isOther w_t v1 = some res) : ct_i l yX2_isOther (.code yX2_isOther cX2_isOther 2 ((some .boolean)) :: wg_L) rm_X2_isOther D cy sz (wc_X2_isOther cy q_t q_t_cells w_t) [.ref q_t, .int v1] (fun r (_ : Unit) => r = res) (fun (u : Unit) => wc_X2_isOther cy q_t q_t_cells w_t) := by
  refine Met.ofW (cc := cX2_isOther) (maxL := 2) (ret := (some .boolean)) (by decide) rfl ?_
  intro p e s m args below meth c s₁ B hml hv
  obtain ⟨rfl, hsz, hP, hK, hD0⟩ := hv
  subst hsz
  have hD := hD0.self (sz := s.heap.size)
  have hl := lv_entry ([.ref q_t, .int v1]) (n := 2) (Nat.le_of_ble_eq_true rfl)
  rw [lg_entry_eq]
  have C0 : cx_C cX2_isOther ((some .boolean)) 2 RX2 (.code yX2_isOther cX2_isOther 2 ((some .boolean)) :: wg_L) p s m [.ref q_t, .int v1].toArray meth c D cy (va_A (wc_X2_isOther cy q_t q_t_cells w_t) s.heap.size) := ⟨B.exec, B.bytes, B.returns, hml, findClass_of_methodNamed B.named, atoms_spec (ws := .code yX2_isOther cX2_isOther 2 ((some .boolean)) :: wg_L) B.pre, hK, B.notSynchronized, fun q h => Or.inr h⟩
  exact b_X2_isOther_0 C0 h hP hD va_S.rf (lv_sub hl [0, 1] rfl)
/-! ### BarrowGrief$Sheet.faultAt(II)I -/
abbrev wc_X2_faultAt (cy : Nat → ClassId) (q_t q_t_cells : Nat) (w_t : s_S) : va_W := [(q_t, .inr (2, [.ref q_t_cells, .int w_t.1, .int w_t.2.1])), (q_t_cells, .inl (cy 1, 40, .inl w_t.2.2))]
abbrev rm_X2_faultAt : Room := { frames := 1, cells := 0, slots := 0, locals := 22 }
abbrev qq_X2_faultAt (below : List Frame) (args : Array Value) (s : State) (D : va_G) (cy : Nat → ClassId) (A : Nat → Prop) (q_t : Nat) (q_t_cells : Nat) (w_t : s_S) (res : Int32) : State → Prop := MQ below (va_Qi (fun r (_ : Unit) => r = res) (fun u t => st_B D cy A ((fun (u : Unit) => wc_X2_faultAt cy q_t q_t_cells w_t) u) t) A) args s 0 0 A
def B_X2_faultAt_0  (w_t : s_S)   (v1 : Int32) (v2 : Int32) : Option (Int32) := if w_t.1 = (-1) then (some 1) else ((M_X6_within v1 0 (w_t.2.1 - 1)).bind (fun u18 => if u18 = 0 then (some 2) else ((M_X6_within v2 0 (w_t.2.1 - 1)).bind (fun u32 => if u32 = 0 then (some 2) else (some 0)))))
set_option maxHeartbeats 4000000 in
set_option maxRecDepth 100000 in
theorem b_X2_faultAt_0 {p : Program} {l : Launch} {e : Env} {s : State} {m : MethodId} {args : Array Value} {below : List Frame} {meth : Method} {c : Code} {D : va_G} {cy : Nat → ClassId} {A : Nat → Prop} {q_t : Nat} {q_t_cells : Nat} {w_t : s_S} {res : Int32}    {v1 : Int32} {v2 : Int32} (C0 : cx_C cX2_faultAt ((some .int)) 3 RX2 (.code yX2_faultAt cX2_faultAt 3 ((some .int)) :: wg_L) p s m args meth c D cy A)  (h : B_X2_faultAt_0 w_t v1 v2 = some res) {H : Heap} {locs : List Loc} {ls : Array Slot} (hP : va_P D vwCl (wc_X2_faultAt cy q_t q_t_cells w_t) H) (hD : va_D A (wc_X2_faultAt cy q_t q_t_cells w_t)) (hS : va_S A s.heap H locs) (hl : lv_has ls 3 [(0, .ref q_t), (1, .int v1), (2, .int v2)]) : W p l e rm_X2_faultAt s m args below meth c H locs 0 0 (qq_X2_faultAt below args s D cy A q_t q_t_cells w_t res) (F0 m 0 ls []) := by
  obtain ⟨hx, hb, hr, hml, hown, hts, hK, hlocks, hA⟩ := id C0
  unfold B_X2_faultAt_0 at h
  refine lv_aload_n hx hb dX2_faultAt_0 rfl (lv_at hl 0 rfl) ?_
  refine va_get (D := D) (ci := 2) (v := .int w_t.1) (C := RX2) (T := TX2) (N := 3) hx hb hts (fun w hw => List.mem_cons_of_mem _ (uw_X2 w hw)) hown hK.1 hP 0 rfl rfl 1 (by decide) (hts _ (List.mem_cons_of_mem _ k_192)) (fun _ h9 => h9) rfl dX2_faultAt_1 ?_
  refine lv_iconst (v := (-1)) hx hb dX2_faultAt_4 (by decide) ?_
  refine lv_icmp_ne (tgt := 10) hx hb dX2_faultAt_5 (by decide) (fun c5 => ?_) (fun c5 => ?_)
  · replace h := it_n c5 h
    refine lv_iload_n hx hb dX2_faultAt_10 rfl (lv_at hl 1 rfl) ?_
    refine lv_iconst (v := 0) hx hb dX2_faultAt_11 (by decide) ?_
    refine lv_aload_n hx hb dX2_faultAt_12 rfl (lv_at hl 0 rfl) ?_
    refine va_get (D := D) (ci := 2) (v := .int w_t.2.1) (C := RX2) (T := TX2) (N := 3) hx hb hts (fun w hw => List.mem_cons_of_mem _ (uw_X2 w hw)) hown hK.1 hP 0 rfl rfl 2 (by decide) (hts _ (List.mem_cons_of_mem _ k_193)) (fun _ h9 => h9) rfl dX2_faultAt_13 ?_
    refine lv_iconst (v := 1) hx hb dX2_faultAt_16 (by decide) ?_
    refine lv_isub hx hb dX2_faultAt_17 ?_
    obtain ⟨u18, hc18, h⟩ := bd_d h
    have hPc := hP.sub (ws' := wc_X6_within cy ) [] rfl
    have hDc := hD.sub (ws' := wc_X6_within cy ) [] (by decide) rfl
    refine cl_i (fun (u : Unit) => wc_X2_faultAt cy q_t q_t_cells w_t) (va_runSN (As := [.int v1, .int 0, .int (w_t.2.1 - 1)]) (rest := []) ⟨hx, hb, hml, hown, hts⟩ (c_X6_within l D cy H.size v1 0 (w_t.2.1 - 1) hc18) ⟨va_cnB 3 hts (wg_in k_242) rfl rfl rfl hK.2.1 (hts _ (List.mem_cons_of_mem _ k_1)) (by decide +kernel) ⟨by decide, by decide⟩, (hts _ (List.mem_cons_of_mem _ k_241)), trivial⟩ ⟨st_blind, fun U hU hW => st_pre hK hPc hDc hU hW⟩ rfl rfl hl.1 rfl (lv_room (Nat.le_of_ble_eq_true rfl)) dX2_faultAt_18 ⟨by decide, by decide⟩) hP hD hS hA [] [0, 1] [0, 1] rfl rfl (by decide) (by decide) (by decide) (fun _ => rfl) (fun r u H locs hw hP hD hS => ?_)
    obtain rfl := hw.symm
    refine lv_if_eq (tgt := 42) hx hb dX2_faultAt_21 (by decide) (fun c21 => ?_) (fun c21 => ?_)
    · replace h := it_p c21 h
      refine lv_iconst (v := 2) hx hb dX2_faultAt_42 (by decide) ?_
      obtain rfl := Option.some.inj h
      exact W.iret (v := 2) hx hb hr (fun tt ht hW => ⟨⟨2, (), rfl, rfl, by rw [ht]; exact hP, kk_warm hW hK, hD⟩, hS.F ht⟩) hS.2.2 dX2_faultAt_43
    · replace h := it_n c21 h
      refine lv_iload_n hx hb dX2_faultAt_24 rfl (lv_at hl 2 rfl) ?_
      refine lv_iconst (v := 0) hx hb dX2_faultAt_25 (by decide) ?_
      refine lv_aload_n hx hb dX2_faultAt_26 rfl (lv_at hl 0 rfl) ?_
      refine va_get (D := D) (ci := 2) (v := .int w_t.2.1) (C := RX2) (T := TX2) (N := 3) hx hb hts (fun w hw => List.mem_cons_of_mem _ (uw_X2 w hw)) hown hK.1 hP 0 rfl rfl 2 (by decide) (hts _ (List.mem_cons_of_mem _ k_193)) (fun _ h9 => h9) rfl dX2_faultAt_27 ?_
      refine lv_iconst (v := 1) hx hb dX2_faultAt_30 (by decide) ?_
      refine lv_isub hx hb dX2_faultAt_31 ?_
      obtain ⟨u32, hc32, h⟩ := bd_d h
      have hPc := hP.sub (ws' := wc_X6_within cy ) [] rfl
      have hDc := hD.sub (ws' := wc_X6_within cy ) [] (by decide) rfl
      refine cl_i (fun (u : Unit) => wc_X2_faultAt cy q_t q_t_cells w_t) (va_runSN (As := [.int v2, .int 0, .int (w_t.2.1 - 1)]) (rest := []) ⟨hx, hb, hml, hown, hts⟩ (c_X6_within l D cy H.size v2 0 (w_t.2.1 - 1) hc32) ⟨va_cnB 3 hts (wg_in k_242) rfl rfl rfl hK.2.1 (hts _ (List.mem_cons_of_mem _ k_1)) (by decide +kernel) ⟨by decide, by decide⟩, (hts _ (List.mem_cons_of_mem _ k_241)), trivial⟩ ⟨st_blind, fun U hU hW => st_pre hK hPc hDc hU hW⟩ rfl rfl hl.1 rfl (lv_room (Nat.le_of_ble_eq_true rfl)) dX2_faultAt_32 ⟨by decide, by decide⟩) hP hD hS hA [] [0, 1] [0, 1] rfl rfl (by decide) (by decide) (by decide) (fun _ => rfl) (fun r u H locs hw hP hD hS => ?_)
      obtain rfl := hw.symm
      refine lv_if_eq (tgt := 42) hx hb dX2_faultAt_35 (by decide) (fun c35 => ?_) (fun c35 => ?_)
      · replace h := it_p c35 h
        refine lv_iconst (v := 2) hx hb dX2_faultAt_42 (by decide) ?_
        obtain rfl := Option.some.inj h
        exact W.iret (v := 2) hx hb hr (fun tt ht hW => ⟨⟨2, (), rfl, rfl, by rw [ht]; exact hP, kk_warm hW hK, hD⟩, hS.F ht⟩) hS.2.2 dX2_faultAt_43
      · replace h := it_n c35 h
        refine lv_iconst (v := 0) hx hb dX2_faultAt_38 (by decide) ?_
        refine lv_goto (tgt := 43) hx hb dX2_faultAt_39 (by decide) ?_
        obtain rfl := Option.some.inj h
        exact W.iret (v := 0) hx hb hr (fun tt ht hW => ⟨⟨0, (), rfl, rfl, by rw [ht]; exact hP, kk_warm hW hK, hD⟩, hS.F ht⟩) hS.2.2 dX2_faultAt_43
  · replace h := it_p c5 h
    refine lv_iconst (v := 1) hx hb dX2_faultAt_8 (by decide) ?_
    obtain rfl := Option.some.inj h
    exact W.iret (v := 1) hx hb hr (fun tt ht hW => ⟨⟨1, (), rfl, rfl, by rw [ht]; exact hP, kk_warm hW hK, hD⟩, hS.F ht⟩) hS.2.2 dX2_faultAt_9
def M_X2_faultAt  (w_t : s_S)   (v1 : Int32) (v2 : Int32) : Option (Int32) := B_X2_faultAt_0 w_t v1 v2
set_option maxHeartbeats 4000000 in
set_option maxRecDepth 100000 in
theorem c_X2_faultAt (l : Launch) (D : va_G) (cy : Nat → ClassId) (sz : Nat) (q_t : Nat) (q_t_cells : Nat) (w_t : s_S) (v1 : Int32) (v2 : Int32)  {res : Int32} (h : M_X2_faultAt w_t v1 v2 = some res) : ct_i l yX2_faultAt (.code yX2_faultAt cX2_faultAt 3 ((some .int)) :: wg_L) rm_X2_faultAt D cy sz (wc_X2_faultAt cy q_t q_t_cells w_t) [.ref q_t, .int v1, .int v2] (fun r (_ : Unit) => r = res) (fun (u : Unit) => wc_X2_faultAt cy q_t q_t_cells w_t) := by
  refine Met.ofW (cc := cX2_faultAt) (maxL := 3) (ret := (some .int)) (by decide) rfl ?_
  intro p e s m args below meth c s₁ B hml hv
  obtain ⟨rfl, hsz, hP, hK, hD0⟩ := hv
  subst hsz
  have hD := hD0.self (sz := s.heap.size)
  have hl := lv_entry ([.ref q_t, .int v1, .int v2]) (n := 3) (Nat.le_of_ble_eq_true rfl)
  rw [lg_entry_eq]
  have C0 : cx_C cX2_faultAt ((some .int)) 3 RX2 (.code yX2_faultAt cX2_faultAt 3 ((some .int)) :: wg_L) p s m [.ref q_t, .int v1, .int v2].toArray meth c D cy (va_A (wc_X2_faultAt cy q_t q_t_cells w_t) s.heap.size) := ⟨B.exec, B.bytes, B.returns, hml, findClass_of_methodNamed B.named, atoms_spec (ws := .code yX2_faultAt cX2_faultAt 3 ((some .int)) :: wg_L) B.pre, hK, B.notSynchronized, fun q h => Or.inr h⟩
  exact b_X2_faultAt_0 C0 h hP hD va_S.rf (lv_sub hl [0, 1, 2] rfl)
/-! ### BarrowGrief$Sheet.put(II)V -/
abbrev wc_X2_put (cy : Nat → ClassId) (q_t q_t_cells : Nat) (w_t : s_S) : va_W := [(q_t, .inr (2, [.ref q_t_cells, .int w_t.1, .int w_t.2.1])), (q_t_cells, .inl (cy 1, 40, .inl w_t.2.2))]
abbrev rm_X2_put : Room := { frames := 0, cells := 0, slots := 0, locals := 0 }
abbrev qq_X2_put (below : List Frame) (args : Array Value) (s : State) (D : va_G) (cy : Nat → ClassId) (A : Nat → Prop) (q_t : Nat) (q_t_cells : Nat) (res : s_S) : State → Prop := MQ below (va_Qv (fun (u : s_S) => u = res) (fun u t => st_B D cy A ((fun (u : s_S) => wc_X2_put cy q_t q_t_cells u) u) t) A) args s 0 0 A
def B_X2_put_0    (w_t : s_S) (v1 : Int32) (v2 : Int32) : Option (s_S) := if w_t.1 = 0 then (nm_v (v2.toInt8.toInt32) (fun z14 => gi_n v1 40 (some (w_t.1, w_t.2.1, (upd w_t.2.2 v1.toNatClampNeg z14))))) else (if w_t.1 = 1 then (nm_v (v2.toInt16.toInt32) (fun z33 => gi_n v1 40 (some (w_t.1, w_t.2.1, (upd w_t.2.2 v1.toNatClampNeg z33))))) else (gi_n v1 40 (some (w_t.1, w_t.2.1, (upd w_t.2.2 v1.toNatClampNeg v2)))))
set_option maxHeartbeats 4000000 in
set_option maxRecDepth 100000 in
theorem b_X2_put_0 {p : Program} {l : Launch} {e : Env} {s : State} {m : MethodId} {args : Array Value} {below : List Frame} {meth : Method} {c : Code} {D : va_G} {cy : Nat → ClassId} {A : Nat → Prop} {q_t : Nat} {q_t_cells : Nat} {res : s_S}   {w_t : s_S} {v1 : Int32} {v2 : Int32} (C0 : cx_C cX2_put (none) 3 RX2 (.code yX2_put cX2_put 3 (none) :: wg_L) p s m args meth c D cy A)  (h : B_X2_put_0 w_t v1 v2 = some res) {H : Heap} {locs : List Loc} {ls : Array Slot} (hP : va_P D vwCl (wc_X2_put cy q_t q_t_cells w_t) H) (hD : va_D A (wc_X2_put cy q_t q_t_cells w_t)) (hS : va_S A s.heap H locs) (hl : lv_has ls 3 [(0, .ref q_t), (1, .int v1), (2, .int v2)]) : W p l e rm_X2_put s m args below meth c H locs 0 0 (qq_X2_put below args s D cy A q_t q_t_cells res) (F0 m 0 ls []) := by
  obtain ⟨hx, hb, hr, hml, hown, hts, hK, hlocks, hA⟩ := id C0
  unfold B_X2_put_0 at h
  refine lv_aload_n hx hb dX2_put_0 rfl (lv_at hl 0 rfl) ?_
  refine va_get (D := D) (ci := 2) (v := .int w_t.1) (C := RX2) (T := TX2) (N := 3) hx hb hts (fun w hw => List.mem_cons_of_mem _ (uw_X2 w hw)) hown hK.1 hP 0 rfl rfl 1 (by decide) (hts _ (List.mem_cons_of_mem _ k_192)) (fun _ h9 => h9) rfl dX2_put_1 ?_
  refine lv_if_ne (tgt := 18) hx hb dX2_put_4 (by decide) (fun c4 => ?_) (fun c4 => ?_)
  · replace h := it_n c4 h
    refine lv_aload_n hx hb dX2_put_18 rfl (lv_at hl 0 rfl) ?_
    refine va_get (D := D) (ci := 2) (v := .int w_t.1) (C := RX2) (T := TX2) (N := 3) hx hb hts (fun w hw => List.mem_cons_of_mem _ (uw_X2 w hw)) hown hK.1 hP 0 rfl rfl 1 (by decide) (hts _ (List.mem_cons_of_mem _ k_192)) (fun _ h9 => h9) rfl dX2_put_19 ?_
    refine lv_iconst (v := 1) hx hb dX2_put_22 (by decide) ?_
    refine lv_icmp_ne (tgt := 37) hx hb dX2_put_23 (by decide) (fun c23 => ?_) (fun c23 => ?_)
    · replace h := it_n c23 h
      refine lv_aload_n hx hb dX2_put_37 rfl (lv_at hl 0 rfl) ?_
      refine va_get (D := D) (ci := 2) (v := .ref q_t_cells) (C := RX2) (T := TX2) (N := 3) hx hb hts (fun w hw => List.mem_cons_of_mem _ (uw_X2 w hw)) hown hK.1 hP 0 rfl rfl 0 (by decide) (hts _ (List.mem_cons_of_mem _ k_190)) (fun _ h9 => h9) rfl dX2_put_38 ?_
      refine lv_iload_n hx hb dX2_put_41 rfl (lv_at hl 1 rfl) ?_
      refine lv_iload_n hx hb dX2_put_42 rfl (lv_at hl 2 rfl) ?_
      obtain ⟨hi1, h⟩ := gi_d h
      refine va_iast hx hb hK.1 hP hD hS 1 1 rfl rfl hi1 dX2_put_43 (fun H locs hP hD hS => ?_)
      have hP : va_P D vwCl (wc_X2_put cy q_t q_t_cells (w_t.1, w_t.2.1, (upd w_t.2.2 v1.toNatClampNeg v2))) H := hP
      have hD : va_D A (wc_X2_put cy q_t q_t_cells (w_t.1, w_t.2.1, (upd w_t.2.2 v1.toNatClampNeg v2))) := hD
      obtain rfl := Option.some.inj h
      exact W.vret hx hb hr (fun tt ht hW => ⟨⟨(w_t.1, w_t.2.1, (upd w_t.2.2 v1.toNatClampNeg v2)), rfl, rfl, by rw [ht]; exact hP, kk_warm hW hK, hD⟩, hS.F ht⟩) hS.2.2 dX2_put_44
    · replace h := it_p c23 h
      refine lv_aload_n hx hb dX2_put_26 rfl (lv_at hl 0 rfl) ?_
      refine va_get (D := D) (ci := 2) (v := .ref q_t_cells) (C := RX2) (T := TX2) (N := 3) hx hb hts (fun w hw => List.mem_cons_of_mem _ (uw_X2 w hw)) hown hK.1 hP 0 rfl rfl 0 (by decide) (hts _ (List.mem_cons_of_mem _ k_190)) (fun _ h9 => h9) rfl dX2_put_27 ?_
      refine lv_iload_n hx hb dX2_put_30 rfl (lv_at hl 1 rfl) ?_
      refine lv_iload_n hx hb dX2_put_31 rfl (lv_at hl 2 rfl) ?_
      refine lv_i2s (v := v2.toInt16.toInt32) hx hb dX2_put_32 rfl ?_
      refine lv_topi (fun z33 ez33 => ?_)
      replace h := nm_d ez33 h
      obtain ⟨hi2, h⟩ := gi_d h
      refine va_iast hx hb hK.1 hP hD hS 1 1 rfl rfl hi2 dX2_put_33 (fun H locs hP hD hS => ?_)
      have hP : va_P D vwCl (wc_X2_put cy q_t q_t_cells (w_t.1, w_t.2.1, (upd w_t.2.2 v1.toNatClampNeg z33))) H := hP
      have hD : va_D A (wc_X2_put cy q_t q_t_cells (w_t.1, w_t.2.1, (upd w_t.2.2 v1.toNatClampNeg z33))) := hD
      refine lv_goto (tgt := 44) hx hb dX2_put_34 (by decide) ?_
      obtain rfl := Option.some.inj h
      exact W.vret hx hb hr (fun tt ht hW => ⟨⟨(w_t.1, w_t.2.1, (upd w_t.2.2 v1.toNatClampNeg z33)), rfl, rfl, by rw [ht]; exact hP, kk_warm hW hK, hD⟩, hS.F ht⟩) hS.2.2 dX2_put_44
  · replace h := it_p c4 h
    refine lv_aload_n hx hb dX2_put_7 rfl (lv_at hl 0 rfl) ?_
    refine va_get (D := D) (ci := 2) (v := .ref q_t_cells) (C := RX2) (T := TX2) (N := 3) hx hb hts (fun w hw => List.mem_cons_of_mem _ (uw_X2 w hw)) hown hK.1 hP 0 rfl rfl 0 (by decide) (hts _ (List.mem_cons_of_mem _ k_190)) (fun _ h9 => h9) rfl dX2_put_8 ?_
    refine lv_iload_n hx hb dX2_put_11 rfl (lv_at hl 1 rfl) ?_
    refine lv_iload_n hx hb dX2_put_12 rfl (lv_at hl 2 rfl) ?_
    refine lv_i2b (v := v2.toInt8.toInt32) hx hb dX2_put_13 rfl ?_
    refine lv_topi (fun z14 ez14 => ?_)
    replace h := nm_d ez14 h
    obtain ⟨hi3, h⟩ := gi_d h
    refine va_iast hx hb hK.1 hP hD hS 1 1 rfl rfl hi3 dX2_put_14 (fun H locs hP hD hS => ?_)
    have hP : va_P D vwCl (wc_X2_put cy q_t q_t_cells (w_t.1, w_t.2.1, (upd w_t.2.2 v1.toNatClampNeg z14))) H := hP
    have hD : va_D A (wc_X2_put cy q_t q_t_cells (w_t.1, w_t.2.1, (upd w_t.2.2 v1.toNatClampNeg z14))) := hD
    refine lv_goto (tgt := 44) hx hb dX2_put_15 (by decide) ?_
    obtain rfl := Option.some.inj h
    exact W.vret hx hb hr (fun tt ht hW => ⟨⟨(w_t.1, w_t.2.1, (upd w_t.2.2 v1.toNatClampNeg z14)), rfl, rfl, by rw [ht]; exact hP, kk_warm hW hK, hD⟩, hS.F ht⟩) hS.2.2 dX2_put_44
def M_X2_put    (w_t : s_S) (v1 : Int32) (v2 : Int32) : Option (s_S) := B_X2_put_0 w_t v1 v2
set_option maxHeartbeats 4000000 in
set_option maxRecDepth 100000 in
theorem c_X2_put (l : Launch) (D : va_G) (cy : Nat → ClassId) (sz : Nat) (q_t : Nat) (q_t_cells : Nat) (w_t : s_S) (v1 : Int32) (v2 : Int32)  {res : s_S} (h : M_X2_put w_t v1 v2 = some res) : ct_v l yX2_put (.code yX2_put cX2_put 3 (none) :: wg_L) rm_X2_put D cy sz (wc_X2_put cy q_t q_t_cells w_t) [.ref q_t, .int v1, .int v2] (fun (u : s_S) => u = res) (fun (u : s_S) => wc_X2_put cy q_t q_t_cells u) := by
  refine Met.ofW (cc := cX2_put) (maxL := 3) (ret := none) (by decide) rfl ?_
  intro p e s m args below meth c s₁ B hml hv
  obtain ⟨rfl, hsz, hP, hK, hD0⟩ := hv
  subst hsz
  have hD := hD0.self (sz := s.heap.size)
  have hl := lv_entry ([.ref q_t, .int v1, .int v2]) (n := 3) (Nat.le_of_ble_eq_true rfl)
  rw [lg_entry_eq]
  have C0 : cx_C cX2_put (none) 3 RX2 (.code yX2_put cX2_put 3 (none) :: wg_L) p s m [.ref q_t, .int v1, .int v2].toArray meth c D cy (va_A (wc_X2_put cy q_t q_t_cells w_t) s.heap.size) := ⟨B.exec, B.bytes, B.returns, hml, findClass_of_methodNamed B.named, atoms_spec (ws := .code yX2_put cX2_put 3 (none) :: wg_L) B.pre, hK, B.notSynchronized, fun q h => Or.inr h⟩
  exact b_X2_put_0 C0 h hP hD va_S.rf (lv_sub hl [0, 1, 2] rfl)
/-! ### java/util/Arrays.fill([II)V -/
abbrev wc_J7_fill_53178 (cy : Nat → ClassId) (q_a0 : Nat) (n_a0 : Nat) (a0 : Nat → Int32) : va_W := [(q_a0, .inl (cy 1, n_a0, .inl a0))]
abbrev rm_J7_fill_53178 : Room := { frames := 0, cells := 0, slots := 0, locals := 0 }
abbrev qq_J7_fill_53178 (below : List Frame) (args : Array Value) (s : State) (D : va_G) (cy : Nat → ClassId) (A : Nat → Prop) (q_a0 : Nat) (n_a0 : Nat) (res : (Nat → Int32)) : State → Prop := MQ below (va_Qv (fun (u : (Nat → Int32)) => u = res) (fun u t => st_B D cy A ((fun (u : (Nat → Int32)) => wc_J7_fill_53178 cy q_a0 n_a0 u) u) t) A) args s 0 0 A
def B_J7_fill_53178_5 (k5 : (Nat → Int32) → Int32 → Int32 → Int32 → Option ((Nat → Int32))) (n_a0 : Nat)  (f : Nat) (a0 : Nat → Int32) (v1 : Int32) (v2 : Int32) (v3 : Int32) : Option ((Nat → Int32)) := if v3 ≤ v2 then (some a0) else (gi_n v2 n_a0 (k5 (upd a0 v2.toNatClampNeg v1) v1 (v2 + 1) v3))
set_option maxHeartbeats 4000000 in
set_option maxRecDepth 100000 in
theorem b_J7_fill_53178_5 {p : Program} {l : Launch} {e : Env} {s : State} {m : MethodId} {args : Array Value} {below : List Frame} {meth : Method} {c : Code} {D : va_G} {cy : Nat → ClassId} {A : Nat → Prop} {q_a0 : Nat} {n_a0 : Nat} {res : (Nat → Int32)} {k5 : (Nat → Int32) → Int32 → Int32 → Int32 → Option ((Nat → Int32))} {f : Nat} {a0 : Nat → Int32} {v1 : Int32} {v2 : Int32} {v3 : Int32} (C0 : cx_C cJ7_fill_53178 (none) 4 RJ7 (.code yJ7_fill_53178 cJ7_fill_53178 4 (none) :: wg_L) p s m args meth c D cy A) (hk5 : ∀ (a0 : Nat → Int32) (v1 : Int32) (v2 : Int32) (v3 : Int32), k5 a0 v1 v2 v3 = some res → ∀ (H : Heap) (locs : List Loc) (ls : Array Slot), va_P D vwCl (wc_J7_fill_53178 cy q_a0 n_a0 a0) H → va_D A (wc_J7_fill_53178 cy q_a0 n_a0 a0) → va_S A s.heap H locs → lv_has ls 4 [(0, .ref q_a0), (1, .int v1), (2, .int v2), (3, .int v3)] → W p l e rm_J7_fill_53178 s m args below meth c H locs 0 0 (qq_J7_fill_53178 below args s D cy A q_a0 n_a0 res) (F0 m 5 ls [])) (h : B_J7_fill_53178_5 k5 n_a0 f a0 v1 v2 v3 = some res) {H : Heap} {locs : List Loc} {ls : Array Slot} (hP : va_P D vwCl (wc_J7_fill_53178 cy q_a0 n_a0 a0) H) (hD : va_D A (wc_J7_fill_53178 cy q_a0 n_a0 a0)) (hS : va_S A s.heap H locs) (hl : lv_has ls 4 [(0, .ref q_a0), (1, .int v1), (2, .int v2), (3, .int v3)]) : W p l e rm_J7_fill_53178 s m args below meth c H locs 0 0 (qq_J7_fill_53178 below args s D cy A q_a0 n_a0 res) (F0 m 5 ls []) := by
  obtain ⟨hx, hb, hr, hml, hown, hts, hK, hlocks, hA⟩ := id C0
  unfold B_J7_fill_53178_5 at h
  refine lv_iload_n hx hb dJ7_fill_53178_5 rfl (lv_at hl 2 rfl) ?_
  refine lv_iload_n hx hb dJ7_fill_53178_6 rfl (lv_at hl 3 rfl) ?_
  refine lv_icmp_ge (tgt := 20) hx hb dJ7_fill_53178_7 (by decide) (fun c7 => ?_) (fun c7 => ?_)
  · replace h := it_p c7 h
    obtain rfl := Option.some.inj h
    exact W.vret hx hb hr (fun tt ht hW => ⟨⟨a0, rfl, rfl, by rw [ht]; exact hP, kk_warm hW hK, hD⟩, hS.F ht⟩) hS.2.2 dJ7_fill_53178_20
  · replace h := it_n c7 h
    refine lv_aload_n hx hb dJ7_fill_53178_10 rfl (lv_at hl 0 rfl) ?_
    refine lv_iload_n hx hb dJ7_fill_53178_11 rfl (lv_at hl 2 rfl) ?_
    refine lv_iload_n hx hb dJ7_fill_53178_12 rfl (lv_at hl 1 rfl) ?_
    obtain ⟨hi1, h⟩ := gi_d h
    refine va_iast hx hb hK.1 hP hD hS 0 1 rfl rfl hi1 dJ7_fill_53178_13 (fun H locs hP hD hS => ?_)
    have hP : va_P D vwCl (wc_J7_fill_53178 cy q_a0 n_a0 (upd a0 v2.toNatClampNeg v1)) H := hP
    have hD : va_D A (wc_J7_fill_53178 cy q_a0 n_a0 (upd a0 v2.toNatClampNeg v1)) := hD
    refine lv_iinc (v := (v2 + 1)) (lv' := [(2, .int (v2 + 1)), (0, .ref q_a0), (1, .int v1), (3, .int v3)]) hx hb dJ7_fill_53178_14 hl (k := 2) rfl (by rfl) (by decide) rfl (fun ls hl => ?_)
    refine lv_goto (tgt := 5) hx hb dJ7_fill_53178_17 (by decide) ?_
    exact hk5 _ _ _ _ h _ _ _ hP hD hS (lv_sub hl [1, 2, 0, 3] rfl)
def M_J7_fill_53178_5  (n_a0 : Nat)  : Nat → (Nat → Int32) → Int32 → Int32 → Int32 → Option ((Nat → Int32))
  | 0, _, _, _, _ => none
  | f + 1, a0, v1, v2, v3 => B_J7_fill_53178_5 (M_J7_fill_53178_5 n_a0 f) n_a0 f a0 v1 v2 v3
theorem t_J7_fill_53178_5 {p : Program} {l : Launch} {e : Env} {s : State} {m : MethodId} {args : Array Value} {below : List Frame} {meth : Method} {c : Code} {D : va_G} {cy : Nat → ClassId} {A : Nat → Prop} {q_a0 : Nat} {n_a0 : Nat} {res : (Nat → Int32)}  (C0 : cx_C cJ7_fill_53178 (none) 4 RJ7 (.code yJ7_fill_53178 cJ7_fill_53178 4 (none) :: wg_L) p s m args meth c D cy A)  : ∀ (f : Nat) (a0 : Nat → Int32) (v1 : Int32) (v2 : Int32) (v3 : Int32), M_J7_fill_53178_5 n_a0 f a0 v1 v2 v3 = some res → ∀ (H : Heap) (locs : List Loc) (ls : Array Slot), va_P D vwCl (wc_J7_fill_53178 cy q_a0 n_a0 a0) H → va_D A (wc_J7_fill_53178 cy q_a0 n_a0 a0) → va_S A s.heap H locs → lv_has ls 4 [(0, .ref q_a0), (1, .int v1), (2, .int v2), (3, .int v3)] → W p l e rm_J7_fill_53178 s m args below meth c H locs 0 0 (qq_J7_fill_53178 below args s D cy A q_a0 n_a0 res) (F0 m 5 ls []) := by
  intro f
  induction f with
  | zero =>
    intro _ _ _ _ h
    exact absurd (show (none : Option ((Nat → Int32))) = some res from h) (fun q => by cases q)
  | succ f ih =>
    intro a0 v1 v2 v3 h H locs ls hP hD hS hl
    have h : B_J7_fill_53178_5 (M_J7_fill_53178_5 n_a0 f) n_a0 f a0 v1 v2 v3 = some res := h
    exact b_J7_fill_53178_5 C0 ih h hP hD hS hl
def B_J7_fill_53178_0  (n_a0 : Nat)  (f : Nat) (a0 : Nat → Int32) (v1 : Int32) : Option ((Nat → Int32)) := nm_v (nI n_a0) (fun v3_4 => M_J7_fill_53178_5 n_a0 f a0 v1 0 v3_4)
set_option maxHeartbeats 4000000 in
set_option maxRecDepth 100000 in
theorem b_J7_fill_53178_0 {p : Program} {l : Launch} {e : Env} {s : State} {m : MethodId} {args : Array Value} {below : List Frame} {meth : Method} {c : Code} {D : va_G} {cy : Nat → ClassId} {A : Nat → Prop} {q_a0 : Nat} {n_a0 : Nat} {res : (Nat → Int32)}  {f : Nat} {a0 : Nat → Int32} {v1 : Int32} (C0 : cx_C cJ7_fill_53178 (none) 4 RJ7 (.code yJ7_fill_53178 cJ7_fill_53178 4 (none) :: wg_L) p s m args meth c D cy A)  (h : B_J7_fill_53178_0 n_a0 f a0 v1 = some res) {H : Heap} {locs : List Loc} {ls : Array Slot} (hP : va_P D vwCl (wc_J7_fill_53178 cy q_a0 n_a0 a0) H) (hD : va_D A (wc_J7_fill_53178 cy q_a0 n_a0 a0)) (hS : va_S A s.heap H locs) (hl : lv_has ls 4 [(0, .ref q_a0), (1, .int v1)]) : W p l e rm_J7_fill_53178 s m args below meth c H locs 0 0 (qq_J7_fill_53178 below args s D cy A q_a0 n_a0 res) (F0 m 0 ls []) := by
  obtain ⟨hx, hb, hr, hml, hown, hts, hK, hlocks, hA⟩ := id C0
  unfold B_J7_fill_53178_0 at h
  refine lv_iconst (v := 0) hx hb dJ7_fill_53178_0 (by decide) ?_
  refine lv_istore_n (lv' := [(2, .int 0), (0, .ref q_a0), (1, .int v1)]) hx hb dJ7_fill_53178_1 rfl hl (by decide) rfl (fun ls hl => ?_)
  refine lv_aload_n hx hb dJ7_fill_53178_2 rfl (lv_at hl 1 rfl) ?_
  refine va_alen (v := (nI n_a0)) hx hb hK.1 hP 0 1 rfl rfl rfl dJ7_fill_53178_3 ?_
  refine lv_topi (fun v3_4 ev3_4 => ?_)
  replace h := nm_d ev3_4 h
  refine lv_istore_n (lv' := [(3, .int v3_4), (2, .int 0), (0, .ref q_a0), (1, .int v1)]) hx hb dJ7_fill_53178_4 rfl hl (by decide) rfl (fun ls hl => ?_)
  exact t_J7_fill_53178_5 C0 _ _ _ _ _ h _ _ _ hP hD hS (lv_sub hl [2, 3, 1, 0] rfl)
def M_J7_fill_53178  (n_a0 : Nat)  (f : Nat) (a0 : Nat → Int32) (v1 : Int32) : Option ((Nat → Int32)) := B_J7_fill_53178_0 n_a0 f a0 v1
set_option maxHeartbeats 4000000 in
set_option maxRecDepth 100000 in
theorem c_J7_fill_53178 (l : Launch) (D : va_G) (cy : Nat → ClassId) (sz : Nat) (q_a0 : Nat) (n_a0 : Nat) (a0 : Nat → Int32) (v1 : Int32) {f : Nat} {res : (Nat → Int32)} (h : M_J7_fill_53178 n_a0 f a0 v1 = some res) : ct_v l yJ7_fill_53178 (.code yJ7_fill_53178 cJ7_fill_53178 4 (none) :: wg_L) rm_J7_fill_53178 D cy sz (wc_J7_fill_53178 cy q_a0 n_a0 a0) [.ref q_a0, .int v1] (fun (u : (Nat → Int32)) => u = res) (fun (u : (Nat → Int32)) => wc_J7_fill_53178 cy q_a0 n_a0 u) := by
  refine Met.ofW (cc := cJ7_fill_53178) (maxL := 4) (ret := none) (by decide) rfl ?_
  intro p e s m args below meth c s₁ B hml hv
  obtain ⟨rfl, hsz, hP, hK, hD0⟩ := hv
  subst hsz
  have hD := hD0.self (sz := s.heap.size)
  have hl := lv_entry ([.ref q_a0, .int v1]) (n := 4) (Nat.le_of_ble_eq_true rfl)
  rw [lg_entry_eq]
  have C0 : cx_C cJ7_fill_53178 (none) 4 RJ7 (.code yJ7_fill_53178 cJ7_fill_53178 4 (none) :: wg_L) p s m [.ref q_a0, .int v1].toArray meth c D cy (va_A (wc_J7_fill_53178 cy q_a0 n_a0 a0) s.heap.size) := ⟨B.exec, B.bytes, B.returns, hml, findClass_of_methodNamed B.named, atoms_spec (ws := .code yJ7_fill_53178 cJ7_fill_53178 4 (none) :: wg_L) B.pre, hK, B.notSynchronized, fun q h => Or.inr h⟩
  exact b_J7_fill_53178_0 C0 h hP hD va_S.rf (lv_sub hl [0, 1] rfl)
/-! ### BarrowGrief$Sheet.renew(II)V -/
abbrev wc_X2_renew (cy : Nat → ClassId) (q_t q_t_cells : Nat) (w_t : s_S) : va_W := [(q_t, .inr (2, [.ref q_t_cells, .int w_t.1, .int w_t.2.1])), (q_t_cells, .inl (cy 1, 40, .inl w_t.2.2))]
abbrev rm_X2_renew : Room := { frames := 1, cells := 0, slots := 0, locals := 23 }
abbrev qq_X2_renew (below : List Frame) (args : Array Value) (s : State) (D : va_G) (cy : Nat → ClassId) (A : Nat → Prop) (q_t : Nat) (q_t_cells : Nat) (res : s_S) : State → Prop := MQ below (va_Qv (fun (u : s_S) => u = res) (fun u t => st_B D cy A ((fun (u : s_S) => wc_X2_renew cy q_t q_t_cells u) u) t) A) args s 0 0 A
def B_X2_renew_0   (f : Nat) (w_t : s_S) (v1 : Int32) (v2 : Int32) : Option (s_S) := (M_J7_fill_53178 40 f w_t.2.2 0).bind (fun u15 => some (v1, v2, u15))
set_option maxHeartbeats 4000000 in
set_option maxRecDepth 100000 in
theorem b_X2_renew_0 {p : Program} {l : Launch} {e : Env} {s : State} {m : MethodId} {args : Array Value} {below : List Frame} {meth : Method} {c : Code} {D : va_G} {cy : Nat → ClassId} {A : Nat → Prop} {q_t : Nat} {q_t_cells : Nat} {res : s_S}  {f : Nat} {w_t : s_S} {v1 : Int32} {v2 : Int32} (C0 : cx_C cX2_renew (none) 3 RX2 (.code yX2_renew cX2_renew 3 (none) :: wg_L) p s m args meth c D cy A)  (h : B_X2_renew_0 f w_t v1 v2 = some res) {H : Heap} {locs : List Loc} {ls : Array Slot} (hP : va_P D vwCl (wc_X2_renew cy q_t q_t_cells w_t) H) (hD : va_D A (wc_X2_renew cy q_t q_t_cells w_t)) (hS : va_S A s.heap H locs) (hl : lv_has ls 3 [(0, .ref q_t), (1, .int v1), (2, .int v2)]) : W p l e rm_X2_renew s m args below meth c H locs 0 0 (qq_X2_renew below args s D cy A q_t q_t_cells res) (F0 m 0 ls []) := by
  obtain ⟨hx, hb, hr, hml, hown, hts, hK, hlocks, hA⟩ := id C0
  unfold B_X2_renew_0 at h
  refine lv_aload_n hx hb dX2_renew_0 rfl (lv_at hl 0 rfl) ?_
  refine lv_iload_n hx hb dX2_renew_1 rfl (lv_at hl 1 rfl) ?_
  refine va_put (D := D) (ci := 2) (v := .int v1) (ty := .int) (C := RX2) (T := TX2) (N := 3) hx hb hts (fun w hw => List.mem_cons_of_mem _ (uw_X2 w hw)) tyX2 tyX2_ok nmX2 hown hK.1 hP hD hS 0 rfl rfl 1 (by decide) (hts _ (List.mem_cons_of_mem _ k_192)) (fun _ h9 => h9) rfl (by decide +kernel) rfl rfl (Nat.le_of_ble_eq_true rfl) dX2_renew_2 (fun H locs hP hD hS => ?_)
  have hP : va_P D vwCl (wc_X2_renew cy q_t q_t_cells (v1, w_t.2.1, w_t.2.2)) H := hP
  have hD : va_D A (wc_X2_renew cy q_t q_t_cells (v1, w_t.2.1, w_t.2.2)) := hD
  refine lv_aload_n hx hb dX2_renew_5 rfl (lv_at hl 0 rfl) ?_
  refine lv_iload_n hx hb dX2_renew_6 rfl (lv_at hl 2 rfl) ?_
  refine va_put (D := D) (ci := 2) (v := .int v2) (ty := .int) (C := RX2) (T := TX2) (N := 3) hx hb hts (fun w hw => List.mem_cons_of_mem _ (uw_X2 w hw)) tyX2 tyX2_ok nmX2 hown hK.1 hP hD hS 0 rfl rfl 2 (by decide) (hts _ (List.mem_cons_of_mem _ k_193)) (fun _ h9 => h9) rfl (by decide +kernel) rfl rfl (Nat.le_of_ble_eq_true rfl) dX2_renew_7 (fun H locs hP hD hS => ?_)
  have hP : va_P D vwCl (wc_X2_renew cy q_t q_t_cells (v1, v2, w_t.2.2)) H := hP
  have hD : va_D A (wc_X2_renew cy q_t q_t_cells (v1, v2, w_t.2.2)) := hD
  refine lv_aload_n hx hb dX2_renew_10 rfl (lv_at hl 0 rfl) ?_
  refine va_get (D := D) (ci := 2) (v := .ref q_t_cells) (C := RX2) (T := TX2) (N := 3) hx hb hts (fun w hw => List.mem_cons_of_mem _ (uw_X2 w hw)) hown hK.1 hP 0 rfl rfl 0 (by decide) (hts _ (List.mem_cons_of_mem _ k_190)) (fun _ h9 => h9) rfl dX2_renew_11 ?_
  refine lv_iconst (v := 0) hx hb dX2_renew_14 (by decide) ?_
  obtain ⟨u15, hc15, h⟩ := bd_d h
  have hPc := hP.sub (ws' := wc_J7_fill_53178 cy q_t_cells 40 w_t.2.2) [1] rfl
  have hDc := hD.sub (ws' := wc_J7_fill_53178 cy q_t_cells 40 w_t.2.2) [1] (by decide) rfl
  refine cl_v (fun (u : (Nat → Int32)) => wc_X2_renew cy q_t q_t_cells (v1, v2, u)) (va_runS (As := [.ref q_t_cells, .int 0]) (rest := []) ⟨hx, hb, hml, hown, hts⟩ (c_J7_fill_53178 l D cy H.size q_t_cells 40 w_t.2.2 0 hc15) ⟨callB_of 2 hts (wg_in k_658) rfl rfl rfl (hts _ (List.mem_cons_of_mem _ k_16)) (hts _ (List.mem_cons_of_mem _ k_656)) (by decide +kernel) ⟨by decide, by decide⟩, (hts _ (List.mem_cons_of_mem _ k_657))⟩ ⟨st_blind, fun U hU hW => st_pre hK hPc hDc hU hW⟩ rfl rfl hl.1 rfl (lv_room (Nat.le_of_ble_eq_true rfl)) dX2_renew_15 ⟨by decide, by decide⟩) hP hD hS hA [1] [0] [0, 1] rfl rfl (by decide) (by decide) (by decide) (fun _ => rfl) (fun u H locs hw hP hD hS => ?_)
  obtain rfl := hw.symm
  have hP : va_P D vwCl (wc_X2_renew cy q_t q_t_cells (v1, v2, u15)) H := hP
  have hD : va_D A (wc_X2_renew cy q_t q_t_cells (v1, v2, u15)) := hD
  obtain rfl := Option.some.inj h
  exact W.vret hx hb hr (fun tt ht hW => ⟨⟨(v1, v2, u15), rfl, rfl, by rw [ht]; exact hP, kk_warm hW hK, hD⟩, hS.F ht⟩) hS.2.2 dX2_renew_18
def M_X2_renew   (f : Nat) (w_t : s_S) (v1 : Int32) (v2 : Int32) : Option (s_S) := B_X2_renew_0 f w_t v1 v2
set_option maxHeartbeats 4000000 in
set_option maxRecDepth 100000 in
theorem c_X2_renew (l : Launch) (D : va_G) (cy : Nat → ClassId) (sz : Nat) (q_t : Nat) (q_t_cells : Nat) (w_t : s_S) (v1 : Int32) (v2 : Int32) {f : Nat} {res : s_S} (h : M_X2_renew f w_t v1 v2 = some res) : ct_v l yX2_renew (.code yX2_renew cX2_renew 3 (none) :: wg_L) rm_X2_renew D cy sz (wc_X2_renew cy q_t q_t_cells w_t) [.ref q_t, .int v1, .int v2] (fun (u : s_S) => u = res) (fun (u : s_S) => wc_X2_renew cy q_t q_t_cells u) := by
  refine Met.ofW (cc := cX2_renew) (maxL := 3) (ret := none) (by decide) rfl ?_
  intro p e s m args below meth c s₁ B hml hv
  obtain ⟨rfl, hsz, hP, hK, hD0⟩ := hv
  subst hsz
  have hD := hD0.self (sz := s.heap.size)
  have hl := lv_entry ([.ref q_t, .int v1, .int v2]) (n := 3) (Nat.le_of_ble_eq_true rfl)
  rw [lg_entry_eq]
  have C0 : cx_C cX2_renew (none) 3 RX2 (.code yX2_renew cX2_renew 3 (none) :: wg_L) p s m [.ref q_t, .int v1, .int v2].toArray meth c D cy (va_A (wc_X2_renew cy q_t q_t_cells w_t) s.heap.size) := ⟨B.exec, B.bytes, B.returns, hml, findClass_of_methodNamed B.named, atoms_spec (ws := .code yX2_renew cX2_renew 3 (none) :: wg_L) B.pre, hK, B.notSynchronized, fun q h => Or.inr h⟩
  exact b_X2_renew_0 C0 h hP hD va_S.rf (lv_sub hl [0, 1, 2] rfl)
/-! ### java/lang/Integer.bitCount(I)I -/
abbrev wc_J6_bitCount_0f7a4 (cy : Nat → ClassId) : va_W := []
abbrev rm_J6_bitCount_0f7a4 : Room := { frames := 0, cells := 0, slots := 0, locals := 0 }
abbrev qq_J6_bitCount_0f7a4 (below : List Frame) (args : Array Value) (s : State) (D : va_G) (cy : Nat → ClassId) (A : Nat → Prop)  (res : Int32) : State → Prop := MQ below (va_Qi (fun r (_ : Unit) => r = res) (fun u t => st_B D cy A ((fun (u : Unit) => wc_J6_bitCount_0f7a4 cy ) u) t) A) args s 0 0 A
def B_J6_bitCount_0f7a4_0     (v0 : Int32) : Option (Int32) := nm_v (v0 - (((v0.toUInt32 >>> ((1 : Int32).toUInt32 &&& Int32.toUInt32 31)).toInt32) &&& 1431655765)) (fun v0_9 => nm_v ((v0_9 &&& 858993459) + (((v0_9.toUInt32 >>> ((2 : Int32).toUInt32 &&& Int32.toUInt32 31)).toInt32) &&& 858993459)) (fun v0_23 => nm_v ((v0_23 + ((v0_23.toUInt32 >>> ((4 : Int32).toUInt32 &&& Int32.toUInt32 31)).toInt32)) &&& 252645135) (fun v0_33 => nm_v (v0_33 + ((v0_33.toUInt32 >>> ((8 : Int32).toUInt32 &&& Int32.toUInt32 31)).toInt32)) (fun v0_40 => nm_v (v0_40 + ((v0_40.toUInt32 >>> ((16 : Int32).toUInt32 &&& Int32.toUInt32 31)).toInt32)) (fun v0_47 => some (v0_47 &&& 63))))))
set_option maxHeartbeats 4000000 in
set_option maxRecDepth 100000 in
theorem b_J6_bitCount_0f7a4_0 {p : Program} {l : Launch} {e : Env} {s : State} {m : MethodId} {args : Array Value} {below : List Frame} {meth : Method} {c : Code} {D : va_G} {cy : Nat → ClassId} {A : Nat → Prop}  {res : Int32}    {v0 : Int32} (C0 : cx_C cJ6_bitCount_0f7a4 ((some .int)) 1 RJ6 (.code yJ6_bitCount_0f7a4 cJ6_bitCount_0f7a4 1 ((some .int)) :: wg_L) p s m args meth c D cy A)  (h : B_J6_bitCount_0f7a4_0 v0 = some res) {H : Heap} {locs : List Loc} {ls : Array Slot} (hP : va_P D vwCl (wc_J6_bitCount_0f7a4 cy ) H) (hD : va_D A (wc_J6_bitCount_0f7a4 cy )) (hS : va_S A s.heap H locs) (hl : lv_has ls 1 [(0, .int v0)]) : W p l e rm_J6_bitCount_0f7a4 s m args below meth c H locs 0 0 (qq_J6_bitCount_0f7a4 below args s D cy A  res) (F0 m 0 ls []) := by
  obtain ⟨hx, hb, hr, hml, hown, hts, hK, hlocks, hA⟩ := id C0
  unfold B_J6_bitCount_0f7a4_0 at h
  refine lv_iload_n hx hb dJ6_bitCount_0f7a4_0 rfl (lv_at hl 0 rfl) ?_
  refine lv_iload_n hx hb dJ6_bitCount_0f7a4_1 rfl (lv_at hl 0 rfl) ?_
  refine lv_iconst (v := 1) hx hb dJ6_bitCount_0f7a4_2 (by decide) ?_
  refine lv_iushr (v := (v0.toUInt32 >>> ((1 : Int32).toUInt32 &&& Int32.toUInt32 31)).toInt32) hx hb dJ6_bitCount_0f7a4_3 rfl ?_
  refine lv_ldcw (own := RJ6) (v := 1431655765) hx hb hown (hts _ (List.mem_cons_of_mem _ k_618)) dJ6_bitCount_0f7a4_4 ?_
  refine lv_iand hx hb dJ6_bitCount_0f7a4_7 ?_
  refine lv_isub hx hb dJ6_bitCount_0f7a4_8 ?_
  refine lv_topi (fun v0_9 ev0_9 => ?_)
  replace h := nm_d ev0_9 h
  refine lv_istore_n (lv' := [(0, .int v0_9)]) hx hb dJ6_bitCount_0f7a4_9 rfl hl (by decide) rfl (fun ls hl => ?_)
  refine lv_iload_n hx hb dJ6_bitCount_0f7a4_10 rfl (lv_at hl 0 rfl) ?_
  refine lv_ldcw (own := RJ6) (v := 858993459) hx hb hown (hts _ (List.mem_cons_of_mem _ k_619)) dJ6_bitCount_0f7a4_11 ?_
  refine lv_iand hx hb dJ6_bitCount_0f7a4_14 ?_
  refine lv_iload_n hx hb dJ6_bitCount_0f7a4_15 rfl (lv_at hl 0 rfl) ?_
  refine lv_iconst (v := 2) hx hb dJ6_bitCount_0f7a4_16 (by decide) ?_
  refine lv_iushr (v := (v0_9.toUInt32 >>> ((2 : Int32).toUInt32 &&& Int32.toUInt32 31)).toInt32) hx hb dJ6_bitCount_0f7a4_17 rfl ?_
  refine lv_ldcw (own := RJ6) (v := 858993459) hx hb hown (hts _ (List.mem_cons_of_mem _ k_619)) dJ6_bitCount_0f7a4_18 ?_
  refine lv_iand hx hb dJ6_bitCount_0f7a4_21 ?_
  refine lv_iadd hx hb dJ6_bitCount_0f7a4_22 ?_
  refine lv_topi (fun v0_23 ev0_23 => ?_)
  replace h := nm_d ev0_23 h
  refine lv_istore_n (lv' := [(0, .int v0_23)]) hx hb dJ6_bitCount_0f7a4_23 rfl hl (by decide) rfl (fun ls hl => ?_)
  refine lv_iload_n hx hb dJ6_bitCount_0f7a4_24 rfl (lv_at hl 0 rfl) ?_
  refine lv_iload_n hx hb dJ6_bitCount_0f7a4_25 rfl (lv_at hl 0 rfl) ?_
  refine lv_iconst (v := 4) hx hb dJ6_bitCount_0f7a4_26 (by decide) ?_
  refine lv_iushr (v := (v0_23.toUInt32 >>> ((4 : Int32).toUInt32 &&& Int32.toUInt32 31)).toInt32) hx hb dJ6_bitCount_0f7a4_27 rfl ?_
  refine lv_iadd hx hb dJ6_bitCount_0f7a4_28 ?_
  refine lv_ldcw (own := RJ6) (v := 252645135) hx hb hown (hts _ (List.mem_cons_of_mem _ k_620)) dJ6_bitCount_0f7a4_29 ?_
  refine lv_iand hx hb dJ6_bitCount_0f7a4_32 ?_
  refine lv_topi (fun v0_33 ev0_33 => ?_)
  replace h := nm_d ev0_33 h
  refine lv_istore_n (lv' := [(0, .int v0_33)]) hx hb dJ6_bitCount_0f7a4_33 rfl hl (by decide) rfl (fun ls hl => ?_)
  refine lv_iload_n hx hb dJ6_bitCount_0f7a4_34 rfl (lv_at hl 0 rfl) ?_
  refine lv_iload_n hx hb dJ6_bitCount_0f7a4_35 rfl (lv_at hl 0 rfl) ?_
  refine lv_bipush (v := 8) hx hb dJ6_bitCount_0f7a4_36 (by decide) ?_
  refine lv_iushr (v := (v0_33.toUInt32 >>> ((8 : Int32).toUInt32 &&& Int32.toUInt32 31)).toInt32) hx hb dJ6_bitCount_0f7a4_38 rfl ?_
  refine lv_iadd hx hb dJ6_bitCount_0f7a4_39 ?_
  refine lv_topi (fun v0_40 ev0_40 => ?_)
  replace h := nm_d ev0_40 h
  refine lv_istore_n (lv' := [(0, .int v0_40)]) hx hb dJ6_bitCount_0f7a4_40 rfl hl (by decide) rfl (fun ls hl => ?_)
  refine lv_iload_n hx hb dJ6_bitCount_0f7a4_41 rfl (lv_at hl 0 rfl) ?_
  refine lv_iload_n hx hb dJ6_bitCount_0f7a4_42 rfl (lv_at hl 0 rfl) ?_
  refine lv_bipush (v := 16) hx hb dJ6_bitCount_0f7a4_43 (by decide) ?_
  refine lv_iushr (v := (v0_40.toUInt32 >>> ((16 : Int32).toUInt32 &&& Int32.toUInt32 31)).toInt32) hx hb dJ6_bitCount_0f7a4_45 rfl ?_
  refine lv_iadd hx hb dJ6_bitCount_0f7a4_46 ?_
  refine lv_topi (fun v0_47 ev0_47 => ?_)
  replace h := nm_d ev0_47 h
  refine lv_istore_n (lv' := [(0, .int v0_47)]) hx hb dJ6_bitCount_0f7a4_47 rfl hl (by decide) rfl (fun ls hl => ?_)
  refine lv_iload_n hx hb dJ6_bitCount_0f7a4_48 rfl (lv_at hl 0 rfl) ?_
  refine lv_bipush (v := 63) hx hb dJ6_bitCount_0f7a4_49 (by decide) ?_
  refine lv_iand hx hb dJ6_bitCount_0f7a4_51 ?_
  obtain rfl := Option.some.inj h
  exact W.iret (v := (v0_47 &&& 63)) hx hb hr (fun tt ht hW => ⟨⟨(v0_47 &&& 63), (), rfl, rfl, by rw [ht]; exact hP, kk_warm hW hK, hD⟩, hS.F ht⟩) hS.2.2 dJ6_bitCount_0f7a4_52
def M_J6_bitCount_0f7a4     (v0 : Int32) : Option (Int32) := B_J6_bitCount_0f7a4_0 v0
set_option maxHeartbeats 4000000 in
set_option maxRecDepth 100000 in
theorem c_J6_bitCount_0f7a4 (l : Launch) (D : va_G) (cy : Nat → ClassId) (sz : Nat)  (v0 : Int32)  {res : Int32} (h : M_J6_bitCount_0f7a4 v0 = some res) : ct_i l yJ6_bitCount_0f7a4 (.code yJ6_bitCount_0f7a4 cJ6_bitCount_0f7a4 1 ((some .int)) :: wg_L) rm_J6_bitCount_0f7a4 D cy sz (wc_J6_bitCount_0f7a4 cy ) [.int v0] (fun r (_ : Unit) => r = res) (fun (u : Unit) => wc_J6_bitCount_0f7a4 cy ) := by
  refine Met.ofW (cc := cJ6_bitCount_0f7a4) (maxL := 1) (ret := (some .int)) (by decide) rfl ?_
  intro p e s m args below meth c s₁ B hml hv
  obtain ⟨rfl, hsz, hP, hK, hD0⟩ := hv
  subst hsz
  have hD := hD0.self (sz := s.heap.size)
  have hl := lv_entry ([.int v0]) (n := 1) (Nat.le_of_ble_eq_true rfl)
  rw [lg_entry_eq]
  have C0 : cx_C cJ6_bitCount_0f7a4 ((some .int)) 1 RJ6 (.code yJ6_bitCount_0f7a4 cJ6_bitCount_0f7a4 1 ((some .int)) :: wg_L) p s m [.int v0].toArray meth c D cy (va_A (wc_J6_bitCount_0f7a4 cy ) s.heap.size) := ⟨B.exec, B.bytes, B.returns, hml, findClass_of_methodNamed B.named, atoms_spec (ws := .code yJ6_bitCount_0f7a4 cJ6_bitCount_0f7a4 1 ((some .int)) :: wg_L) B.pre, hK, B.notSynchronized, fun q h => Or.inr h⟩
  exact b_J6_bitCount_0f7a4_0 C0 h hP hD va_S.rf (lv_sub hl [0] rfl)
/-! ### BarrowGrief$Tape.endName()V -/
abbrev wc_X4_endName (cy : Nat → ClassId) (q_t q_t_bytes : Nat) (w_t : s_T) : va_W := [(q_t, .inr (4, [.ref q_t_bytes, .int w_t.1, .int w_t.2.1, .int w_t.2.2.1, .int w_t.2.2.2.1, .int w_t.2.2.2.2.1])), (q_t_bytes, .inl (cy 0, 160, .inl w_t.2.2.2.2.2))]
abbrev rm_X4_endName : Room := { frames := 0, cells := 0, slots := 0, locals := 0 }
abbrev qq_X4_endName (below : List Frame) (args : Array Value) (s : State) (D : va_G) (cy : Nat → ClassId) (A : Nat → Prop) (q_t : Nat) (q_t_bytes : Nat) (res : s_T) : State → Prop := MQ below (va_Qv (fun (u : s_T) => u = res) (fun u t => st_B D cy A ((fun (u : s_T) => wc_X4_endName cy q_t q_t_bytes u) u) t) A) args s 0 0 A
def B_X4_endName_0 (k0 : s_T → Option (s_T))  (f : Nat) (w_t : s_T)  : Option (s_T) := if w_t.1 ≤ w_t.2.1 then (some (w_t.1, w_t.2.1, 1, w_t.2.2.2.1, w_t.2.2.2.2.1, w_t.2.2.2.2.2)) else (gi_n w_t.2.1 160 (if (w_t.2.2.2.2.2 w_t.2.1.toNatClampNeg) < 97 then (some (w_t.1, w_t.2.1, 1, w_t.2.2.2.1, w_t.2.2.2.2.1, w_t.2.2.2.2.2)) else (gi_n w_t.2.1 160 (if 122 < (w_t.2.2.2.2.2 w_t.2.1.toNatClampNeg) then (some (w_t.1, w_t.2.1, 1, w_t.2.2.2.1, w_t.2.2.2.2.1, w_t.2.2.2.2.2)) else (nm_v (w_t.2.1 + 1) (fun z46 => k0 (w_t.1, z46, w_t.2.2.1, w_t.2.2.2.1, w_t.2.2.2.2.1, w_t.2.2.2.2.2)))))))
set_option maxHeartbeats 4000000 in
set_option maxRecDepth 100000 in
theorem b_X4_endName_0 {p : Program} {l : Launch} {e : Env} {s : State} {m : MethodId} {args : Array Value} {below : List Frame} {meth : Method} {c : Code} {D : va_G} {cy : Nat → ClassId} {A : Nat → Prop} {q_t : Nat} {q_t_bytes : Nat} {res : s_T} {k0 : s_T → Option (s_T)} {f : Nat} {w_t : s_T}  (C0 : cx_C cX4_endName (none) 1 RX4 (.code yX4_endName cX4_endName 1 (none) :: wg_L) p s m args meth c D cy A) (hk0 : ∀ (w_t : s_T), k0 w_t = some res → ∀ (H : Heap) (locs : List Loc) (ls : Array Slot), va_P D vwCl (wc_X4_endName cy q_t q_t_bytes w_t) H → va_D A (wc_X4_endName cy q_t q_t_bytes w_t) → va_S A s.heap H locs → lv_has ls 1 [(0, .ref q_t)] → W p l e rm_X4_endName s m args below meth c H locs 0 0 (qq_X4_endName below args s D cy A q_t q_t_bytes res) (F0 m 0 ls [])) (h : B_X4_endName_0 k0 f w_t = some res) {H : Heap} {locs : List Loc} {ls : Array Slot} (hP : va_P D vwCl (wc_X4_endName cy q_t q_t_bytes w_t) H) (hD : va_D A (wc_X4_endName cy q_t q_t_bytes w_t)) (hS : va_S A s.heap H locs) (hl : lv_has ls 1 [(0, .ref q_t)]) : W p l e rm_X4_endName s m args below meth c H locs 0 0 (qq_X4_endName below args s D cy A q_t q_t_bytes res) (F0 m 0 ls []) := by
  obtain ⟨hx, hb, hr, hml, hown, hts, hK, hlocks, hA⟩ := id C0
  unfold B_X4_endName_0 at h
  refine lv_aload_n hx hb dX4_endName_0 rfl (lv_at hl 0 rfl) ?_
  refine va_get (D := D) (ci := 4) (v := .int w_t.2.1) (C := RX4) (T := TX4) (N := 6) hx hb hts (fun w hw => List.mem_cons_of_mem _ (uw_X4 w hw)) hown hK.1 hP 0 rfl rfl 2 (by decide) (hts _ (List.mem_cons_of_mem _ k_119)) (fun _ h9 => h9) rfl dX4_endName_1 ?_
  refine lv_aload_n hx hb dX4_endName_4 rfl (lv_at hl 0 rfl) ?_
  refine va_get (D := D) (ci := 4) (v := .int w_t.1) (C := RX4) (T := TX4) (N := 6) hx hb hts (fun w hw => List.mem_cons_of_mem _ (uw_X4 w hw)) hown hK.1 hP 0 rfl rfl 1 (by decide) (hts _ (List.mem_cons_of_mem _ k_116)) (fun _ h9 => h9) rfl dX4_endName_5 ?_
  refine lv_icmp_ge (tgt := 52) hx hb dX4_endName_8 (by decide) (fun c8 => ?_) (fun c8 => ?_)
  · replace h := it_p c8 h
    refine lv_aload_n hx hb dX4_endName_52 rfl (lv_at hl 0 rfl) ?_
    refine lv_iconst (v := 1) hx hb dX4_endName_53 (by decide) ?_
    refine va_put (D := D) (ci := 4) (v := .int 1) (ty := .int) (C := RX4) (T := TX4) (N := 6) hx hb hts (fun w hw => List.mem_cons_of_mem _ (uw_X4 w hw)) tyX4 tyX4_ok nmX4 hown hK.1 hP hD hS 0 rfl rfl 3 (by decide) (hts _ (List.mem_cons_of_mem _ k_122)) (fun _ h9 => h9) rfl (by decide +kernel) rfl rfl (Nat.le_of_ble_eq_true rfl) dX4_endName_54 (fun H locs hP hD hS => ?_)
    have hP : va_P D vwCl (wc_X4_endName cy q_t q_t_bytes (w_t.1, w_t.2.1, 1, w_t.2.2.2.1, w_t.2.2.2.2.1, w_t.2.2.2.2.2)) H := hP
    have hD : va_D A (wc_X4_endName cy q_t q_t_bytes (w_t.1, w_t.2.1, 1, w_t.2.2.2.1, w_t.2.2.2.2.1, w_t.2.2.2.2.2)) := hD
    obtain rfl := Option.some.inj h
    exact W.vret hx hb hr (fun tt ht hW => ⟨⟨(w_t.1, w_t.2.1, 1, w_t.2.2.2.1, w_t.2.2.2.2.1, w_t.2.2.2.2.2), rfl, rfl, by rw [ht]; exact hP, kk_warm hW hK, hD⟩, hS.F ht⟩) hS.2.2 dX4_endName_57
  · replace h := it_n c8 h
    refine lv_aload_n hx hb dX4_endName_11 rfl (lv_at hl 0 rfl) ?_
    refine va_get (D := D) (ci := 4) (v := .ref q_t_bytes) (C := RX4) (T := TX4) (N := 6) hx hb hts (fun w hw => List.mem_cons_of_mem _ (uw_X4 w hw)) hown hK.1 hP 0 rfl rfl 0 (by decide) (hts _ (List.mem_cons_of_mem _ k_114)) (fun _ h9 => h9) rfl dX4_endName_12 ?_
    refine lv_aload_n hx hb dX4_endName_15 rfl (lv_at hl 0 rfl) ?_
    refine va_get (D := D) (ci := 4) (v := .int w_t.2.1) (C := RX4) (T := TX4) (N := 6) hx hb hts (fun w hw => List.mem_cons_of_mem _ (uw_X4 w hw)) hown hK.1 hP 0 rfl rfl 2 (by decide) (hts _ (List.mem_cons_of_mem _ k_119)) (fun _ h9 => h9) rfl dX4_endName_16 ?_
    obtain ⟨hi1, h⟩ := gi_d h
    refine va_bald hx hb hK.1 hP 1 0 rfl rfl hi1 dX4_endName_19 ?_
    refine lv_bipush (v := 97) hx hb dX4_endName_20 (by decide) ?_
    refine lv_icmp_lt (tgt := 52) hx hb dX4_endName_22 (by decide) (fun c22 => ?_) (fun c22 => ?_)
    · replace h := it_p c22 h
      refine lv_aload_n hx hb dX4_endName_52 rfl (lv_at hl 0 rfl) ?_
      refine lv_iconst (v := 1) hx hb dX4_endName_53 (by decide) ?_
      refine va_put (D := D) (ci := 4) (v := .int 1) (ty := .int) (C := RX4) (T := TX4) (N := 6) hx hb hts (fun w hw => List.mem_cons_of_mem _ (uw_X4 w hw)) tyX4 tyX4_ok nmX4 hown hK.1 hP hD hS 0 rfl rfl 3 (by decide) (hts _ (List.mem_cons_of_mem _ k_122)) (fun _ h9 => h9) rfl (by decide +kernel) rfl rfl (Nat.le_of_ble_eq_true rfl) dX4_endName_54 (fun H locs hP hD hS => ?_)
      have hP : va_P D vwCl (wc_X4_endName cy q_t q_t_bytes (w_t.1, w_t.2.1, 1, w_t.2.2.2.1, w_t.2.2.2.2.1, w_t.2.2.2.2.2)) H := hP
      have hD : va_D A (wc_X4_endName cy q_t q_t_bytes (w_t.1, w_t.2.1, 1, w_t.2.2.2.1, w_t.2.2.2.2.1, w_t.2.2.2.2.2)) := hD
      obtain rfl := Option.some.inj h
      exact W.vret hx hb hr (fun tt ht hW => ⟨⟨(w_t.1, w_t.2.1, 1, w_t.2.2.2.1, w_t.2.2.2.2.1, w_t.2.2.2.2.2), rfl, rfl, by rw [ht]; exact hP, kk_warm hW hK, hD⟩, hS.F ht⟩) hS.2.2 dX4_endName_57
    · replace h := it_n c22 h
      refine lv_aload_n hx hb dX4_endName_25 rfl (lv_at hl 0 rfl) ?_
      refine va_get (D := D) (ci := 4) (v := .ref q_t_bytes) (C := RX4) (T := TX4) (N := 6) hx hb hts (fun w hw => List.mem_cons_of_mem _ (uw_X4 w hw)) hown hK.1 hP 0 rfl rfl 0 (by decide) (hts _ (List.mem_cons_of_mem _ k_114)) (fun _ h9 => h9) rfl dX4_endName_26 ?_
      refine lv_aload_n hx hb dX4_endName_29 rfl (lv_at hl 0 rfl) ?_
      refine va_get (D := D) (ci := 4) (v := .int w_t.2.1) (C := RX4) (T := TX4) (N := 6) hx hb hts (fun w hw => List.mem_cons_of_mem _ (uw_X4 w hw)) hown hK.1 hP 0 rfl rfl 2 (by decide) (hts _ (List.mem_cons_of_mem _ k_119)) (fun _ h9 => h9) rfl dX4_endName_30 ?_
      obtain ⟨hi2, h⟩ := gi_d h
      refine va_bald hx hb hK.1 hP 1 0 rfl rfl hi2 dX4_endName_33 ?_
      refine lv_bipush (v := 122) hx hb dX4_endName_34 (by decide) ?_
      refine lv_icmp_gt (tgt := 52) hx hb dX4_endName_36 (by decide) (fun c36 => ?_) (fun c36 => ?_)
      · replace h := it_p c36 h
        refine lv_aload_n hx hb dX4_endName_52 rfl (lv_at hl 0 rfl) ?_
        refine lv_iconst (v := 1) hx hb dX4_endName_53 (by decide) ?_
        refine va_put (D := D) (ci := 4) (v := .int 1) (ty := .int) (C := RX4) (T := TX4) (N := 6) hx hb hts (fun w hw => List.mem_cons_of_mem _ (uw_X4 w hw)) tyX4 tyX4_ok nmX4 hown hK.1 hP hD hS 0 rfl rfl 3 (by decide) (hts _ (List.mem_cons_of_mem _ k_122)) (fun _ h9 => h9) rfl (by decide +kernel) rfl rfl (Nat.le_of_ble_eq_true rfl) dX4_endName_54 (fun H locs hP hD hS => ?_)
        have hP : va_P D vwCl (wc_X4_endName cy q_t q_t_bytes (w_t.1, w_t.2.1, 1, w_t.2.2.2.1, w_t.2.2.2.2.1, w_t.2.2.2.2.2)) H := hP
        have hD : va_D A (wc_X4_endName cy q_t q_t_bytes (w_t.1, w_t.2.1, 1, w_t.2.2.2.1, w_t.2.2.2.2.1, w_t.2.2.2.2.2)) := hD
        obtain rfl := Option.some.inj h
        exact W.vret hx hb hr (fun tt ht hW => ⟨⟨(w_t.1, w_t.2.1, 1, w_t.2.2.2.1, w_t.2.2.2.2.1, w_t.2.2.2.2.2), rfl, rfl, by rw [ht]; exact hP, kk_warm hW hK, hD⟩, hS.F ht⟩) hS.2.2 dX4_endName_57
      · replace h := it_n c36 h
        refine lv_aload_n hx hb dX4_endName_39 rfl (lv_at hl 0 rfl) ?_
        refine lv_dup hx hb dX4_endName_40 rfl ?_
        refine va_get (D := D) (ci := 4) (v := .int w_t.2.1) (C := RX4) (T := TX4) (N := 6) hx hb hts (fun w hw => List.mem_cons_of_mem _ (uw_X4 w hw)) hown hK.1 hP 0 rfl rfl 2 (by decide) (hts _ (List.mem_cons_of_mem _ k_119)) (fun _ h9 => h9) rfl dX4_endName_41 ?_
        refine lv_iconst (v := 1) hx hb dX4_endName_44 (by decide) ?_
        refine lv_iadd hx hb dX4_endName_45 ?_
        refine lv_topi (fun z46 ez46 => ?_)
        replace h := nm_d ez46 h
        refine va_put (D := D) (ci := 4) (v := .int z46) (ty := .int) (C := RX4) (T := TX4) (N := 6) hx hb hts (fun w hw => List.mem_cons_of_mem _ (uw_X4 w hw)) tyX4 tyX4_ok nmX4 hown hK.1 hP hD hS 0 rfl rfl 2 (by decide) (hts _ (List.mem_cons_of_mem _ k_119)) (fun _ h9 => h9) rfl (by decide +kernel) rfl rfl (Nat.le_of_ble_eq_true rfl) dX4_endName_46 (fun H locs hP hD hS => ?_)
        have hP : va_P D vwCl (wc_X4_endName cy q_t q_t_bytes (w_t.1, z46, w_t.2.2.1, w_t.2.2.2.1, w_t.2.2.2.2.1, w_t.2.2.2.2.2)) H := hP
        have hD : va_D A (wc_X4_endName cy q_t q_t_bytes (w_t.1, z46, w_t.2.2.1, w_t.2.2.2.1, w_t.2.2.2.2.1, w_t.2.2.2.2.2)) := hD
        refine lv_goto (tgt := 0) hx hb dX4_endName_49 (by decide) ?_
        exact hk0 _ h _ _ _ hP hD hS (lv_sub hl [0] rfl)
def M_X4_endName_0   : Nat → s_T → Option (s_T)
  | 0, _ => none
  | f + 1, w_t => B_X4_endName_0 (M_X4_endName_0 f) f w_t
theorem t_X4_endName_0 {p : Program} {l : Launch} {e : Env} {s : State} {m : MethodId} {args : Array Value} {below : List Frame} {meth : Method} {c : Code} {D : va_G} {cy : Nat → ClassId} {A : Nat → Prop} {q_t : Nat} {q_t_bytes : Nat} {res : s_T}  (C0 : cx_C cX4_endName (none) 1 RX4 (.code yX4_endName cX4_endName 1 (none) :: wg_L) p s m args meth c D cy A)  : ∀ (f : Nat) (w_t : s_T) , M_X4_endName_0 f w_t = some res → ∀ (H : Heap) (locs : List Loc) (ls : Array Slot), va_P D vwCl (wc_X4_endName cy q_t q_t_bytes w_t) H → va_D A (wc_X4_endName cy q_t q_t_bytes w_t) → va_S A s.heap H locs → lv_has ls 1 [(0, .ref q_t)] → W p l e rm_X4_endName s m args below meth c H locs 0 0 (qq_X4_endName below args s D cy A q_t q_t_bytes res) (F0 m 0 ls []) := by
  intro f
  induction f with
  | zero =>
    intro _ h
    exact absurd (show (none : Option (s_T)) = some res from h) (fun q => by cases q)
  | succ f ih =>
    intro w_t h H locs ls hP hD hS hl
    have h : B_X4_endName_0 (M_X4_endName_0 f) f w_t = some res := h
    exact b_X4_endName_0 C0 ih h hP hD hS hl
def M_X4_endName   (f : Nat) (w_t : s_T)  : Option (s_T) := M_X4_endName_0 f w_t
set_option maxHeartbeats 4000000 in
set_option maxRecDepth 100000 in
theorem c_X4_endName (l : Launch) (D : va_G) (cy : Nat → ClassId) (sz : Nat) (q_t : Nat) (q_t_bytes : Nat) (w_t : s_T)  {f : Nat} {res : s_T} (h : M_X4_endName f w_t = some res) : ct_v l yX4_endName (.code yX4_endName cX4_endName 1 (none) :: wg_L) rm_X4_endName D cy sz (wc_X4_endName cy q_t q_t_bytes w_t) [.ref q_t] (fun (u : s_T) => u = res) (fun (u : s_T) => wc_X4_endName cy q_t q_t_bytes u) := by
  refine Met.ofW (cc := cX4_endName) (maxL := 1) (ret := none) (by decide) rfl ?_
  intro p e s m args below meth c s₁ B hml hv
  obtain ⟨rfl, hsz, hP, hK, hD0⟩ := hv
  subst hsz
  have hD := hD0.self (sz := s.heap.size)
  have hl := lv_entry ([.ref q_t]) (n := 1) (Nat.le_of_ble_eq_true rfl)
  rw [lg_entry_eq]
  have C0 : cx_C cX4_endName (none) 1 RX4 (.code yX4_endName cX4_endName 1 (none) :: wg_L) p s m [.ref q_t].toArray meth c D cy (va_A (wc_X4_endName cy q_t q_t_bytes w_t) s.heap.size) := ⟨B.exec, B.bytes, B.returns, hml, findClass_of_methodNamed B.named, atoms_spec (ws := .code yX4_endName cX4_endName 1 (none) :: wg_L) B.pre, hK, B.notSynchronized, fun q h => Or.inr h⟩
  exact t_X4_endName_0 C0 _ _ h _ _ _ hP hD va_S.rf (lv_sub hl [0] rfl)
/-! ### BarrowGrief$Tape.endNumber(I)V -/
abbrev wc_X4_endNumber (cy : Nat → ClassId) (q_t q_t_bytes : Nat) (w_t : s_T) : va_W := [(q_t, .inr (4, [.ref q_t_bytes, .int w_t.1, .int w_t.2.1, .int w_t.2.2.1, .int w_t.2.2.2.1, .int w_t.2.2.2.2.1])), (q_t_bytes, .inl (cy 0, 160, .inl w_t.2.2.2.2.2))]
abbrev rm_X4_endNumber : Room := { frames := 0, cells := 0, slots := 0, locals := 0 }
abbrev qq_X4_endNumber (below : List Frame) (args : Array Value) (s : State) (D : va_G) (cy : Nat → ClassId) (A : Nat → Prop) (q_t : Nat) (q_t_bytes : Nat) (res : s_T) : State → Prop := MQ below (va_Qv (fun (u : s_T) => u = res) (fun u t => st_B D cy A ((fun (u : s_T) => wc_X4_endNumber cy q_t q_t_bytes u) u) t) A) args s 0 0 A
def B_X4_endNumber_81   (f : Nat) (w_t : s_T)  : Option (s_T) := if 2 < (w_t.2.1 - w_t.2.2.2.1) then (some (w_t.1, w_t.2.1, 4, w_t.2.2.2.1, w_t.2.2.2.2.1, w_t.2.2.2.2.2)) else (some (w_t.1, w_t.2.1, 2, w_t.2.2.2.1, w_t.2.2.2.2.1, w_t.2.2.2.2.2))
set_option maxHeartbeats 4000000 in
set_option maxRecDepth 100000 in
theorem b_X4_endNumber_81 {p : Program} {l : Launch} {e : Env} {s : State} {m : MethodId} {args : Array Value} {below : List Frame} {meth : Method} {c : Code} {D : va_G} {cy : Nat → ClassId} {A : Nat → Prop} {q_t : Nat} {q_t_bytes : Nat} {res : s_T}  {f : Nat} {w_t : s_T}  (C0 : cx_C cX4_endNumber (none) 2 RX4 (.code yX4_endNumber cX4_endNumber 2 (none) :: wg_L) p s m args meth c D cy A)  (h : B_X4_endNumber_81 f w_t = some res) {H : Heap} {locs : List Loc} {ls : Array Slot} (hP : va_P D vwCl (wc_X4_endNumber cy q_t q_t_bytes w_t) H) (hD : va_D A (wc_X4_endNumber cy q_t q_t_bytes w_t)) (hS : va_S A s.heap H locs) (hl : lv_has ls 2 [(0, .ref q_t)]) : W p l e rm_X4_endNumber s m args below meth c H locs 0 0 (qq_X4_endNumber below args s D cy A q_t q_t_bytes res) (F0 m 81 ls []) := by
  obtain ⟨hx, hb, hr, hml, hown, hts, hK, hlocks, hA⟩ := id C0
  unfold B_X4_endNumber_81 at h
  refine lv_aload_n hx hb dX4_endNumber_81 rfl (lv_at hl 0 rfl) ?_
  refine lv_aload_n hx hb dX4_endNumber_82 rfl (lv_at hl 0 rfl) ?_
  refine va_get (D := D) (ci := 4) (v := .int w_t.2.1) (C := RX4) (T := TX4) (N := 6) hx hb hts (fun w hw => List.mem_cons_of_mem _ (uw_X4 w hw)) hown hK.1 hP 0 rfl rfl 2 (by decide) (hts _ (List.mem_cons_of_mem _ k_119)) (fun _ h9 => h9) rfl dX4_endNumber_83 ?_
  refine lv_aload_n hx hb dX4_endNumber_86 rfl (lv_at hl 0 rfl) ?_
  refine va_get (D := D) (ci := 4) (v := .int w_t.2.2.2.1) (C := RX4) (T := TX4) (N := 6) hx hb hts (fun w hw => List.mem_cons_of_mem _ (uw_X4 w hw)) hown hK.1 hP 0 rfl rfl 4 (by decide) (hts _ (List.mem_cons_of_mem _ k_123)) (fun _ h9 => h9) rfl dX4_endNumber_87 ?_
  refine lv_isub hx hb dX4_endNumber_90 ?_
  refine lv_iconst (v := 2) hx hb dX4_endNumber_91 (by decide) ?_
  refine lv_icmp_gt (tgt := 99) hx hb dX4_endNumber_92 (by decide) (fun c92 => ?_) (fun c92 => ?_)
  · replace h := it_p c92 h
    refine lv_iconst (v := 4) hx hb dX4_endNumber_99 (by decide) ?_
    refine va_put (D := D) (ci := 4) (v := .int 4) (ty := .int) (C := RX4) (T := TX4) (N := 6) hx hb hts (fun w hw => List.mem_cons_of_mem _ (uw_X4 w hw)) tyX4 tyX4_ok nmX4 hown hK.1 hP hD hS 0 rfl rfl 3 (by decide) (hts _ (List.mem_cons_of_mem _ k_122)) (fun _ h9 => h9) rfl (by decide +kernel) rfl rfl (Nat.le_of_ble_eq_true rfl) dX4_endNumber_100 (fun H locs hP hD hS => ?_)
    have hP : va_P D vwCl (wc_X4_endNumber cy q_t q_t_bytes (w_t.1, w_t.2.1, 4, w_t.2.2.2.1, w_t.2.2.2.2.1, w_t.2.2.2.2.2)) H := hP
    have hD : va_D A (wc_X4_endNumber cy q_t q_t_bytes (w_t.1, w_t.2.1, 4, w_t.2.2.2.1, w_t.2.2.2.2.1, w_t.2.2.2.2.2)) := hD
    obtain rfl := Option.some.inj h
    exact W.vret hx hb hr (fun tt ht hW => ⟨⟨(w_t.1, w_t.2.1, 4, w_t.2.2.2.1, w_t.2.2.2.2.1, w_t.2.2.2.2.2), rfl, rfl, by rw [ht]; exact hP, kk_warm hW hK, hD⟩, hS.F ht⟩) hS.2.2 dX4_endNumber_103
  · replace h := it_n c92 h
    refine lv_iconst (v := 2) hx hb dX4_endNumber_95 (by decide) ?_
    refine lv_goto (tgt := 100) hx hb dX4_endNumber_96 (by decide) ?_
    refine va_put (D := D) (ci := 4) (v := .int 2) (ty := .int) (C := RX4) (T := TX4) (N := 6) hx hb hts (fun w hw => List.mem_cons_of_mem _ (uw_X4 w hw)) tyX4 tyX4_ok nmX4 hown hK.1 hP hD hS 0 rfl rfl 3 (by decide) (hts _ (List.mem_cons_of_mem _ k_122)) (fun _ h9 => h9) rfl (by decide +kernel) rfl rfl (Nat.le_of_ble_eq_true rfl) dX4_endNumber_100 (fun H locs hP hD hS => ?_)
    have hP : va_P D vwCl (wc_X4_endNumber cy q_t q_t_bytes (w_t.1, w_t.2.1, 2, w_t.2.2.2.1, w_t.2.2.2.2.1, w_t.2.2.2.2.2)) H := hP
    have hD : va_D A (wc_X4_endNumber cy q_t q_t_bytes (w_t.1, w_t.2.1, 2, w_t.2.2.2.1, w_t.2.2.2.2.1, w_t.2.2.2.2.2)) := hD
    obtain rfl := Option.some.inj h
    exact W.vret hx hb hr (fun tt ht hW => ⟨⟨(w_t.1, w_t.2.1, 2, w_t.2.2.2.1, w_t.2.2.2.2.1, w_t.2.2.2.2.2), rfl, rfl, by rw [ht]; exact hP, kk_warm hW hK, hD⟩, hS.F ht⟩) hS.2.2 dX4_endNumber_103
def B_X4_endNumber_5 (k5 : s_T → Option (s_T))  (f : Nat) (w_t : s_T)  : Option (s_T) := if w_t.1 ≤ w_t.2.1 then (B_X4_endNumber_81 f w_t) else (gi_n w_t.2.1 160 (if (w_t.2.2.2.2.2 w_t.2.1.toNatClampNeg) < 48 then (B_X4_endNumber_81 f w_t) else (gi_n w_t.2.1 160 (if 57 < (w_t.2.2.2.2.2 w_t.2.1.toNatClampNeg) then (B_X4_endNumber_81 f w_t) else (gi_n w_t.2.1 160 (nm_v (((w_t.2.2.2.2.1 * 10) + (w_t.2.2.2.2.2 w_t.2.1.toNatClampNeg)) - 48) (fun z65 => nm_v (w_t.2.1 + 1) (fun z75 => k5 (w_t.1, z75, w_t.2.2.1, w_t.2.2.2.1, z65, w_t.2.2.2.2.2)))))))))
set_option maxHeartbeats 4000000 in
set_option maxRecDepth 100000 in
theorem b_X4_endNumber_5 {p : Program} {l : Launch} {e : Env} {s : State} {m : MethodId} {args : Array Value} {below : List Frame} {meth : Method} {c : Code} {D : va_G} {cy : Nat → ClassId} {A : Nat → Prop} {q_t : Nat} {q_t_bytes : Nat} {res : s_T} {k5 : s_T → Option (s_T)} {f : Nat} {w_t : s_T}  (C0 : cx_C cX4_endNumber (none) 2 RX4 (.code yX4_endNumber cX4_endNumber 2 (none) :: wg_L) p s m args meth c D cy A) (hk5 : ∀ (w_t : s_T), k5 w_t = some res → ∀ (H : Heap) (locs : List Loc) (ls : Array Slot), va_P D vwCl (wc_X4_endNumber cy q_t q_t_bytes w_t) H → va_D A (wc_X4_endNumber cy q_t q_t_bytes w_t) → va_S A s.heap H locs → lv_has ls 2 [(0, .ref q_t)] → W p l e rm_X4_endNumber s m args below meth c H locs 0 0 (qq_X4_endNumber below args s D cy A q_t q_t_bytes res) (F0 m 5 ls [])) (h : B_X4_endNumber_5 k5 f w_t = some res) {H : Heap} {locs : List Loc} {ls : Array Slot} (hP : va_P D vwCl (wc_X4_endNumber cy q_t q_t_bytes w_t) H) (hD : va_D A (wc_X4_endNumber cy q_t q_t_bytes w_t)) (hS : va_S A s.heap H locs) (hl : lv_has ls 2 [(0, .ref q_t)]) : W p l e rm_X4_endNumber s m args below meth c H locs 0 0 (qq_X4_endNumber below args s D cy A q_t q_t_bytes res) (F0 m 5 ls []) := by
  obtain ⟨hx, hb, hr, hml, hown, hts, hK, hlocks, hA⟩ := id C0
  unfold B_X4_endNumber_5 at h
  refine lv_aload_n hx hb dX4_endNumber_5 rfl (lv_at hl 0 rfl) ?_
  refine va_get (D := D) (ci := 4) (v := .int w_t.2.1) (C := RX4) (T := TX4) (N := 6) hx hb hts (fun w hw => List.mem_cons_of_mem _ (uw_X4 w hw)) hown hK.1 hP 0 rfl rfl 2 (by decide) (hts _ (List.mem_cons_of_mem _ k_119)) (fun _ h9 => h9) rfl dX4_endNumber_6 ?_
  refine lv_aload_n hx hb dX4_endNumber_9 rfl (lv_at hl 0 rfl) ?_
  refine va_get (D := D) (ci := 4) (v := .int w_t.1) (C := RX4) (T := TX4) (N := 6) hx hb hts (fun w hw => List.mem_cons_of_mem _ (uw_X4 w hw)) hown hK.1 hP 0 rfl rfl 1 (by decide) (hts _ (List.mem_cons_of_mem _ k_116)) (fun _ h9 => h9) rfl dX4_endNumber_10 ?_
  refine lv_icmp_ge (tgt := 81) hx hb dX4_endNumber_13 (by decide) (fun c13 => ?_) (fun c13 => ?_)
  · replace h := it_p c13 h
    exact b_X4_endNumber_81 C0 h hP hD hS (lv_sub hl [0] rfl)
  · replace h := it_n c13 h
    refine lv_aload_n hx hb dX4_endNumber_16 rfl (lv_at hl 0 rfl) ?_
    refine va_get (D := D) (ci := 4) (v := .ref q_t_bytes) (C := RX4) (T := TX4) (N := 6) hx hb hts (fun w hw => List.mem_cons_of_mem _ (uw_X4 w hw)) hown hK.1 hP 0 rfl rfl 0 (by decide) (hts _ (List.mem_cons_of_mem _ k_114)) (fun _ h9 => h9) rfl dX4_endNumber_17 ?_
    refine lv_aload_n hx hb dX4_endNumber_20 rfl (lv_at hl 0 rfl) ?_
    refine va_get (D := D) (ci := 4) (v := .int w_t.2.1) (C := RX4) (T := TX4) (N := 6) hx hb hts (fun w hw => List.mem_cons_of_mem _ (uw_X4 w hw)) hown hK.1 hP 0 rfl rfl 2 (by decide) (hts _ (List.mem_cons_of_mem _ k_119)) (fun _ h9 => h9) rfl dX4_endNumber_21 ?_
    obtain ⟨hi1, h⟩ := gi_d h
    refine va_bald hx hb hK.1 hP 1 0 rfl rfl hi1 dX4_endNumber_24 ?_
    refine lv_bipush (v := 48) hx hb dX4_endNumber_25 (by decide) ?_
    refine lv_icmp_lt (tgt := 81) hx hb dX4_endNumber_27 (by decide) (fun c27 => ?_) (fun c27 => ?_)
    · replace h := it_p c27 h
      exact b_X4_endNumber_81 C0 h hP hD hS (lv_sub hl [0] rfl)
    · replace h := it_n c27 h
      refine lv_aload_n hx hb dX4_endNumber_30 rfl (lv_at hl 0 rfl) ?_
      refine va_get (D := D) (ci := 4) (v := .ref q_t_bytes) (C := RX4) (T := TX4) (N := 6) hx hb hts (fun w hw => List.mem_cons_of_mem _ (uw_X4 w hw)) hown hK.1 hP 0 rfl rfl 0 (by decide) (hts _ (List.mem_cons_of_mem _ k_114)) (fun _ h9 => h9) rfl dX4_endNumber_31 ?_
      refine lv_aload_n hx hb dX4_endNumber_34 rfl (lv_at hl 0 rfl) ?_
      refine va_get (D := D) (ci := 4) (v := .int w_t.2.1) (C := RX4) (T := TX4) (N := 6) hx hb hts (fun w hw => List.mem_cons_of_mem _ (uw_X4 w hw)) hown hK.1 hP 0 rfl rfl 2 (by decide) (hts _ (List.mem_cons_of_mem _ k_119)) (fun _ h9 => h9) rfl dX4_endNumber_35 ?_
      obtain ⟨hi2, h⟩ := gi_d h
      refine va_bald hx hb hK.1 hP 1 0 rfl rfl hi2 dX4_endNumber_38 ?_
      refine lv_bipush (v := 57) hx hb dX4_endNumber_39 (by decide) ?_
      refine lv_icmp_gt (tgt := 81) hx hb dX4_endNumber_41 (by decide) (fun c41 => ?_) (fun c41 => ?_)
      · replace h := it_p c41 h
        exact b_X4_endNumber_81 C0 h hP hD hS (lv_sub hl [0] rfl)
      · replace h := it_n c41 h
        refine lv_aload_n hx hb dX4_endNumber_44 rfl (lv_at hl 0 rfl) ?_
        refine lv_aload_n hx hb dX4_endNumber_45 rfl (lv_at hl 0 rfl) ?_
        refine va_get (D := D) (ci := 4) (v := .int w_t.2.2.2.2.1) (C := RX4) (T := TX4) (N := 6) hx hb hts (fun w hw => List.mem_cons_of_mem _ (uw_X4 w hw)) hown hK.1 hP 0 rfl rfl 5 (by decide) (hts _ (List.mem_cons_of_mem _ k_125)) (fun _ h9 => h9) rfl dX4_endNumber_46 ?_
        refine lv_bipush (v := 10) hx hb dX4_endNumber_49 (by decide) ?_
        refine lv_imul hx hb dX4_endNumber_51 ?_
        refine lv_aload_n hx hb dX4_endNumber_52 rfl (lv_at hl 0 rfl) ?_
        refine va_get (D := D) (ci := 4) (v := .ref q_t_bytes) (C := RX4) (T := TX4) (N := 6) hx hb hts (fun w hw => List.mem_cons_of_mem _ (uw_X4 w hw)) hown hK.1 hP 0 rfl rfl 0 (by decide) (hts _ (List.mem_cons_of_mem _ k_114)) (fun _ h9 => h9) rfl dX4_endNumber_53 ?_
        refine lv_aload_n hx hb dX4_endNumber_56 rfl (lv_at hl 0 rfl) ?_
        refine va_get (D := D) (ci := 4) (v := .int w_t.2.1) (C := RX4) (T := TX4) (N := 6) hx hb hts (fun w hw => List.mem_cons_of_mem _ (uw_X4 w hw)) hown hK.1 hP 0 rfl rfl 2 (by decide) (hts _ (List.mem_cons_of_mem _ k_119)) (fun _ h9 => h9) rfl dX4_endNumber_57 ?_
        obtain ⟨hi3, h⟩ := gi_d h
        refine va_bald hx hb hK.1 hP 1 0 rfl rfl hi3 dX4_endNumber_60 ?_
        refine lv_iadd hx hb dX4_endNumber_61 ?_
        refine lv_bipush (v := 48) hx hb dX4_endNumber_62 (by decide) ?_
        refine lv_isub hx hb dX4_endNumber_64 ?_
        refine lv_topi (fun z65 ez65 => ?_)
        replace h := nm_d ez65 h
        refine va_put (D := D) (ci := 4) (v := .int z65) (ty := .int) (C := RX4) (T := TX4) (N := 6) hx hb hts (fun w hw => List.mem_cons_of_mem _ (uw_X4 w hw)) tyX4 tyX4_ok nmX4 hown hK.1 hP hD hS 0 rfl rfl 5 (by decide) (hts _ (List.mem_cons_of_mem _ k_125)) (fun _ h9 => h9) rfl (by decide +kernel) rfl rfl (Nat.le_of_ble_eq_true rfl) dX4_endNumber_65 (fun H locs hP hD hS => ?_)
        have hP : va_P D vwCl (wc_X4_endNumber cy q_t q_t_bytes (w_t.1, w_t.2.1, w_t.2.2.1, w_t.2.2.2.1, z65, w_t.2.2.2.2.2)) H := hP
        have hD : va_D A (wc_X4_endNumber cy q_t q_t_bytes (w_t.1, w_t.2.1, w_t.2.2.1, w_t.2.2.2.1, z65, w_t.2.2.2.2.2)) := hD
        refine lv_aload_n hx hb dX4_endNumber_68 rfl (lv_at hl 0 rfl) ?_
        refine lv_dup hx hb dX4_endNumber_69 rfl ?_
        refine va_get (D := D) (ci := 4) (v := .int w_t.2.1) (C := RX4) (T := TX4) (N := 6) hx hb hts (fun w hw => List.mem_cons_of_mem _ (uw_X4 w hw)) hown hK.1 hP 0 rfl rfl 2 (by decide) (hts _ (List.mem_cons_of_mem _ k_119)) (fun _ h9 => h9) rfl dX4_endNumber_70 ?_
        refine lv_iconst (v := 1) hx hb dX4_endNumber_73 (by decide) ?_
        refine lv_iadd hx hb dX4_endNumber_74 ?_
        refine lv_topi (fun z75 ez75 => ?_)
        replace h := nm_d ez75 h
        refine va_put (D := D) (ci := 4) (v := .int z75) (ty := .int) (C := RX4) (T := TX4) (N := 6) hx hb hts (fun w hw => List.mem_cons_of_mem _ (uw_X4 w hw)) tyX4 tyX4_ok nmX4 hown hK.1 hP hD hS 0 rfl rfl 2 (by decide) (hts _ (List.mem_cons_of_mem _ k_119)) (fun _ h9 => h9) rfl (by decide +kernel) rfl rfl (Nat.le_of_ble_eq_true rfl) dX4_endNumber_75 (fun H locs hP hD hS => ?_)
        have hP : va_P D vwCl (wc_X4_endNumber cy q_t q_t_bytes (w_t.1, z75, w_t.2.2.1, w_t.2.2.2.1, z65, w_t.2.2.2.2.2)) H := hP
        have hD : va_D A (wc_X4_endNumber cy q_t q_t_bytes (w_t.1, z75, w_t.2.2.1, w_t.2.2.2.1, z65, w_t.2.2.2.2.2)) := hD
        refine lv_goto (tgt := 5) hx hb dX4_endNumber_78 (by decide) ?_
        exact hk5 _ h _ _ _ hP hD hS (lv_sub hl [0] rfl)
def M_X4_endNumber_5   : Nat → s_T → Option (s_T)
  | 0, _ => none
  | f + 1, w_t => B_X4_endNumber_5 (M_X4_endNumber_5 f) f w_t
theorem t_X4_endNumber_5 {p : Program} {l : Launch} {e : Env} {s : State} {m : MethodId} {args : Array Value} {below : List Frame} {meth : Method} {c : Code} {D : va_G} {cy : Nat → ClassId} {A : Nat → Prop} {q_t : Nat} {q_t_bytes : Nat} {res : s_T}  (C0 : cx_C cX4_endNumber (none) 2 RX4 (.code yX4_endNumber cX4_endNumber 2 (none) :: wg_L) p s m args meth c D cy A)  : ∀ (f : Nat) (w_t : s_T) , M_X4_endNumber_5 f w_t = some res → ∀ (H : Heap) (locs : List Loc) (ls : Array Slot), va_P D vwCl (wc_X4_endNumber cy q_t q_t_bytes w_t) H → va_D A (wc_X4_endNumber cy q_t q_t_bytes w_t) → va_S A s.heap H locs → lv_has ls 2 [(0, .ref q_t)] → W p l e rm_X4_endNumber s m args below meth c H locs 0 0 (qq_X4_endNumber below args s D cy A q_t q_t_bytes res) (F0 m 5 ls []) := by
  intro f
  induction f with
  | zero =>
    intro _ h
    exact absurd (show (none : Option (s_T)) = some res from h) (fun q => by cases q)
  | succ f ih =>
    intro w_t h H locs ls hP hD hS hl
    have h : B_X4_endNumber_5 (M_X4_endNumber_5 f) f w_t = some res := h
    exact b_X4_endNumber_5 C0 ih h hP hD hS hl
def B_X4_endNumber_0   (f : Nat) (w_t : s_T) (v1 : Int32) : Option (s_T) := M_X4_endNumber_5 f (w_t.1, w_t.2.1, w_t.2.2.1, w_t.2.2.2.1, v1, w_t.2.2.2.2.2)
set_option maxHeartbeats 4000000 in
set_option maxRecDepth 100000 in
theorem b_X4_endNumber_0 {p : Program} {l : Launch} {e : Env} {s : State} {m : MethodId} {args : Array Value} {below : List Frame} {meth : Method} {c : Code} {D : va_G} {cy : Nat → ClassId} {A : Nat → Prop} {q_t : Nat} {q_t_bytes : Nat} {res : s_T}  {f : Nat} {w_t : s_T} {v1 : Int32} (C0 : cx_C cX4_endNumber (none) 2 RX4 (.code yX4_endNumber cX4_endNumber 2 (none) :: wg_L) p s m args meth c D cy A)  (h : B_X4_endNumber_0 f w_t v1 = some res) {H : Heap} {locs : List Loc} {ls : Array Slot} (hP : va_P D vwCl (wc_X4_endNumber cy q_t q_t_bytes w_t) H) (hD : va_D A (wc_X4_endNumber cy q_t q_t_bytes w_t)) (hS : va_S A s.heap H locs) (hl : lv_has ls 2 [(0, .ref q_t), (1, .int v1)]) : W p l e rm_X4_endNumber s m args below meth c H locs 0 0 (qq_X4_endNumber below args s D cy A q_t q_t_bytes res) (F0 m 0 ls []) := by
  obtain ⟨hx, hb, hr, hml, hown, hts, hK, hlocks, hA⟩ := id C0
  unfold B_X4_endNumber_0 at h
  refine lv_aload_n hx hb dX4_endNumber_0 rfl (lv_at hl 0 rfl) ?_
  refine lv_iload_n hx hb dX4_endNumber_1 rfl (lv_at hl 1 rfl) ?_
  refine va_put (D := D) (ci := 4) (v := .int v1) (ty := .int) (C := RX4) (T := TX4) (N := 6) hx hb hts (fun w hw => List.mem_cons_of_mem _ (uw_X4 w hw)) tyX4 tyX4_ok nmX4 hown hK.1 hP hD hS 0 rfl rfl 5 (by decide) (hts _ (List.mem_cons_of_mem _ k_125)) (fun _ h9 => h9) rfl (by decide +kernel) rfl rfl (Nat.le_of_ble_eq_true rfl) dX4_endNumber_2 (fun H locs hP hD hS => ?_)
  have hP : va_P D vwCl (wc_X4_endNumber cy q_t q_t_bytes (w_t.1, w_t.2.1, w_t.2.2.1, w_t.2.2.2.1, v1, w_t.2.2.2.2.2)) H := hP
  have hD : va_D A (wc_X4_endNumber cy q_t q_t_bytes (w_t.1, w_t.2.1, w_t.2.2.1, w_t.2.2.2.1, v1, w_t.2.2.2.2.2)) := hD
  exact t_X4_endNumber_5 C0 _ _ h _ _ _ hP hD hS (lv_sub hl [0] rfl)
def M_X4_endNumber   (f : Nat) (w_t : s_T) (v1 : Int32) : Option (s_T) := B_X4_endNumber_0 f w_t v1
set_option maxHeartbeats 4000000 in
set_option maxRecDepth 100000 in
theorem c_X4_endNumber (l : Launch) (D : va_G) (cy : Nat → ClassId) (sz : Nat) (q_t : Nat) (q_t_bytes : Nat) (w_t : s_T) (v1 : Int32) {f : Nat} {res : s_T} (h : M_X4_endNumber f w_t v1 = some res) : ct_v l yX4_endNumber (.code yX4_endNumber cX4_endNumber 2 (none) :: wg_L) rm_X4_endNumber D cy sz (wc_X4_endNumber cy q_t q_t_bytes w_t) [.ref q_t, .int v1] (fun (u : s_T) => u = res) (fun (u : s_T) => wc_X4_endNumber cy q_t q_t_bytes u) := by
  refine Met.ofW (cc := cX4_endNumber) (maxL := 2) (ret := none) (by decide) rfl ?_
  intro p e s m args below meth c s₁ B hml hv
  obtain ⟨rfl, hsz, hP, hK, hD0⟩ := hv
  subst hsz
  have hD := hD0.self (sz := s.heap.size)
  have hl := lv_entry ([.ref q_t, .int v1]) (n := 2) (Nat.le_of_ble_eq_true rfl)
  rw [lg_entry_eq]
  have C0 : cx_C cX4_endNumber (none) 2 RX4 (.code yX4_endNumber cX4_endNumber 2 (none) :: wg_L) p s m [.ref q_t, .int v1].toArray meth c D cy (va_A (wc_X4_endNumber cy q_t q_t_bytes w_t) s.heap.size) := ⟨B.exec, B.bytes, B.returns, hml, findClass_of_methodNamed B.named, atoms_spec (ws := .code yX4_endNumber cX4_endNumber 2 (none) :: wg_L) B.pre, hK, B.notSynchronized, fun q h => Or.inr h⟩
  exact b_X4_endNumber_0 C0 h hP hD va_S.rf (lv_sub hl [0, 1] rfl)
/-! ### BarrowGrief$Tape.advance()V -/
abbrev wc_X4_advance (cy : Nat → ClassId) (q_t q_t_bytes : Nat) (w_t : s_T) : va_W := [(q_t, .inr (4, [.ref q_t_bytes, .int w_t.1, .int w_t.2.1, .int w_t.2.2.1, .int w_t.2.2.2.1, .int w_t.2.2.2.2.1])), (q_t_bytes, .inl (cy 0, 160, .inl w_t.2.2.2.2.2))]
abbrev rm_X4_advance : Room := { frames := 1, cells := 0, slots := 0, locals := 21 }
abbrev qq_X4_advance (below : List Frame) (args : Array Value) (s : State) (D : va_G) (cy : Nat → ClassId) (A : Nat → Prop) (q_t : Nat) (q_t_bytes : Nat) (res : s_T) : State → Prop := MQ below (va_Qv (fun (u : s_T) => u = res) (fun u t => st_B D cy A ((fun (u : s_T) => wc_X4_advance cy q_t q_t_bytes u) u) t) A) args s 0 0 A
def B_X4_advance_125   (f : Nat) (w_t : s_T) (v1 : Int32) : Option (s_T) := if v1 = 59 then (some (w_t.1, w_t.2.1, 3, w_t.2.2.2.1, w_t.2.2.2.2.1, w_t.2.2.2.2.2)) else (some (w_t.1, w_t.2.1, 4, w_t.2.2.2.1, w_t.2.2.2.2.1, w_t.2.2.2.2.2))
set_option maxHeartbeats 4000000 in
set_option maxRecDepth 100000 in
theorem b_X4_advance_125 {p : Program} {l : Launch} {e : Env} {s : State} {m : MethodId} {args : Array Value} {below : List Frame} {meth : Method} {c : Code} {D : va_G} {cy : Nat → ClassId} {A : Nat → Prop} {q_t : Nat} {q_t_bytes : Nat} {res : s_T}  {f : Nat} {w_t : s_T} {v1 : Int32} (C0 : cx_C cX4_advance (none) 2 RX4 (.code yX4_advance cX4_advance 2 (none) :: wg_L) p s m args meth c D cy A)  (h : B_X4_advance_125 f w_t v1 = some res) {H : Heap} {locs : List Loc} {ls : Array Slot} (hP : va_P D vwCl (wc_X4_advance cy q_t q_t_bytes w_t) H) (hD : va_D A (wc_X4_advance cy q_t q_t_bytes w_t)) (hS : va_S A s.heap H locs) (hl : lv_has ls 2 [(0, .ref q_t), (1, .int v1)]) : W p l e rm_X4_advance s m args below meth c H locs 0 0 (qq_X4_advance below args s D cy A q_t q_t_bytes res) (F0 m 125 ls []) := by
  obtain ⟨hx, hb, hr, hml, hown, hts, hK, hlocks, hA⟩ := id C0
  unfold B_X4_advance_125 at h
  refine lv_aload_n hx hb dX4_advance_125 rfl (lv_at hl 0 rfl) ?_
  refine lv_iload_n hx hb dX4_advance_126 rfl (lv_at hl 1 rfl) ?_
  refine lv_bipush (v := 59) hx hb dX4_advance_127 (by decide) ?_
  refine lv_icmp_ne (tgt := 136) hx hb dX4_advance_129 (by decide) (fun c129 => ?_) (fun c129 => ?_)
  · replace h := it_n c129 h
    refine lv_iconst (v := 4) hx hb dX4_advance_136 (by decide) ?_
    refine va_put (D := D) (ci := 4) (v := .int 4) (ty := .int) (C := RX4) (T := TX4) (N := 6) hx hb hts (fun w hw => List.mem_cons_of_mem _ (uw_X4 w hw)) tyX4 tyX4_ok nmX4 hown hK.1 hP hD hS 0 rfl rfl 3 (by decide) (hts _ (List.mem_cons_of_mem _ k_122)) (fun _ h9 => h9) rfl (by decide +kernel) rfl rfl (Nat.le_of_ble_eq_true rfl) dX4_advance_137 (fun H locs hP hD hS => ?_)
    have hP : va_P D vwCl (wc_X4_advance cy q_t q_t_bytes (w_t.1, w_t.2.1, 4, w_t.2.2.2.1, w_t.2.2.2.2.1, w_t.2.2.2.2.2)) H := hP
    have hD : va_D A (wc_X4_advance cy q_t q_t_bytes (w_t.1, w_t.2.1, 4, w_t.2.2.2.1, w_t.2.2.2.2.1, w_t.2.2.2.2.2)) := hD
    obtain rfl := Option.some.inj h
    exact W.vret hx hb hr (fun tt ht hW => ⟨⟨(w_t.1, w_t.2.1, 4, w_t.2.2.2.1, w_t.2.2.2.2.1, w_t.2.2.2.2.2), rfl, rfl, by rw [ht]; exact hP, kk_warm hW hK, hD⟩, hS.F ht⟩) hS.2.2 dX4_advance_140
  · replace h := it_p c129 h
    refine lv_iconst (v := 3) hx hb dX4_advance_132 (by decide) ?_
    refine lv_goto (tgt := 137) hx hb dX4_advance_133 (by decide) ?_
    refine va_put (D := D) (ci := 4) (v := .int 3) (ty := .int) (C := RX4) (T := TX4) (N := 6) hx hb hts (fun w hw => List.mem_cons_of_mem _ (uw_X4 w hw)) tyX4 tyX4_ok nmX4 hown hK.1 hP hD hS 0 rfl rfl 3 (by decide) (hts _ (List.mem_cons_of_mem _ k_122)) (fun _ h9 => h9) rfl (by decide +kernel) rfl rfl (Nat.le_of_ble_eq_true rfl) dX4_advance_137 (fun H locs hP hD hS => ?_)
    have hP : va_P D vwCl (wc_X4_advance cy q_t q_t_bytes (w_t.1, w_t.2.1, 3, w_t.2.2.2.1, w_t.2.2.2.2.1, w_t.2.2.2.2.2)) H := hP
    have hD : va_D A (wc_X4_advance cy q_t q_t_bytes (w_t.1, w_t.2.1, 3, w_t.2.2.2.1, w_t.2.2.2.2.1, w_t.2.2.2.2.2)) := hD
    obtain rfl := Option.some.inj h
    exact W.vret hx hb hr (fun tt ht hW => ⟨⟨(w_t.1, w_t.2.1, 3, w_t.2.2.2.1, w_t.2.2.2.2.1, w_t.2.2.2.2.2), rfl, rfl, by rw [ht]; exact hP, kk_warm hW hK, hD⟩, hS.F ht⟩) hS.2.2 dX4_advance_140
def B_X4_advance_102   (f : Nat) (w_t : s_T) (v1 : Int32) : Option (s_T) := if v1 < 48 then (B_X4_advance_125 f w_t v1) else (if 57 < v1 then (B_X4_advance_125 f w_t v1) else ((M_X4_endNumber f w_t (v1 - 48)).bind (fun u119 => some u119)))
set_option maxHeartbeats 4000000 in
set_option maxRecDepth 100000 in
theorem b_X4_advance_102 {p : Program} {l : Launch} {e : Env} {s : State} {m : MethodId} {args : Array Value} {below : List Frame} {meth : Method} {c : Code} {D : va_G} {cy : Nat → ClassId} {A : Nat → Prop} {q_t : Nat} {q_t_bytes : Nat} {res : s_T}  {f : Nat} {w_t : s_T} {v1 : Int32} (C0 : cx_C cX4_advance (none) 2 RX4 (.code yX4_advance cX4_advance 2 (none) :: wg_L) p s m args meth c D cy A)  (h : B_X4_advance_102 f w_t v1 = some res) {H : Heap} {locs : List Loc} {ls : Array Slot} (hP : va_P D vwCl (wc_X4_advance cy q_t q_t_bytes w_t) H) (hD : va_D A (wc_X4_advance cy q_t q_t_bytes w_t)) (hS : va_S A s.heap H locs) (hl : lv_has ls 2 [(0, .ref q_t), (1, .int v1)]) : W p l e rm_X4_advance s m args below meth c H locs 0 0 (qq_X4_advance below args s D cy A q_t q_t_bytes res) (F0 m 102 ls []) := by
  obtain ⟨hx, hb, hr, hml, hown, hts, hK, hlocks, hA⟩ := id C0
  unfold B_X4_advance_102 at h
  refine lv_iload_n hx hb dX4_advance_102 rfl (lv_at hl 1 rfl) ?_
  refine lv_bipush (v := 48) hx hb dX4_advance_103 (by decide) ?_
  refine lv_icmp_lt (tgt := 125) hx hb dX4_advance_105 (by decide) (fun c105 => ?_) (fun c105 => ?_)
  · replace h := it_p c105 h
    exact b_X4_advance_125 C0 h hP hD hS (lv_sub hl [0, 1] rfl)
  · replace h := it_n c105 h
    refine lv_iload_n hx hb dX4_advance_108 rfl (lv_at hl 1 rfl) ?_
    refine lv_bipush (v := 57) hx hb dX4_advance_109 (by decide) ?_
    refine lv_icmp_gt (tgt := 125) hx hb dX4_advance_111 (by decide) (fun c111 => ?_) (fun c111 => ?_)
    · replace h := it_p c111 h
      exact b_X4_advance_125 C0 h hP hD hS (lv_sub hl [0, 1] rfl)
    · replace h := it_n c111 h
      refine lv_aload_n hx hb dX4_advance_114 rfl (lv_at hl 0 rfl) ?_
      refine lv_iload_n hx hb dX4_advance_115 rfl (lv_at hl 1 rfl) ?_
      refine lv_bipush (v := 48) hx hb dX4_advance_116 (by decide) ?_
      refine lv_isub hx hb dX4_advance_118 ?_
      obtain ⟨u119, hc119, h⟩ := bd_d h
      have hPc := hP.sub (ws' := wc_X4_endNumber cy q_t q_t_bytes w_t) [0, 1] rfl
      have hDc := hD.sub (ws' := wc_X4_endNumber cy q_t q_t_bytes w_t) [0, 1] (by decide) rfl
      refine cl_v (fun (u : s_T) => wc_X4_advance cy q_t q_t_bytes u) (va_runV (As := [.int (v1 - 48)]) (rest := []) (C := RX4) ⟨hx, hb, hml, hown, hts⟩ (c_X4_endNumber l D cy H.size q_t q_t_bytes w_t (v1 - 48) hc119) ⟨callB_of 1 hts (wg_in k_270) rfl rfl rfl (hts _ (List.mem_cons_of_mem _ k_4)) (hts _ (List.mem_cons_of_mem _ k_267)) (by decide +kernel) ⟨by decide, by decide⟩, (hts _ (List.mem_cons_of_mem _ k_269)), (hts _ (List.mem_cons_of_mem _ ks_1))⟩ ⟨st_blind, va_recv hK.1 hPc (ci := 4) (q0 := 0) rfl rfl, fun U hU hW => st_pre hK hPc hDc hU hW⟩ rfl rfl hl.1 rfl (lv_room (Nat.le_of_ble_eq_true rfl)) dX4_advance_119 ⟨by decide, by decide⟩) hP hD hS hA [0, 1] [] [0, 1] rfl rfl (by decide) (by decide) (by decide) (fun _ => rfl) (fun u H locs hw hP hD hS => ?_)
      obtain rfl := hw.symm
      have hP : va_P D vwCl (wc_X4_advance cy q_t q_t_bytes u119) H := hP
      have hD : va_D A (wc_X4_advance cy q_t q_t_bytes u119) := hD
      refine lv_goto (tgt := 140) hx hb dX4_advance_122 (by decide) ?_
      obtain rfl := Option.some.inj h
      exact W.vret hx hb hr (fun tt ht hW => ⟨⟨u119, rfl, rfl, by rw [ht]; exact hP, kk_warm hW hK, hD⟩, hS.F ht⟩) hS.2.2 dX4_advance_140
def B_X4_advance_38   (f : Nat) (w_t : s_T)  : Option (s_T) := if w_t.2.1 < w_t.1 then (gi_n w_t.2.1 160 (nm_v (w_t.2.2.2.2.2 w_t.2.1.toNatClampNeg) (fun v1_72 => nm_v (w_t.2.1 + 1) (fun z80 => if v1_72 < 97 then (B_X4_advance_102 f (w_t.1, z80, w_t.2.2.1, w_t.2.1, w_t.2.2.2.2.1, w_t.2.2.2.2.2) v1_72) else (if 122 < v1_72 then (B_X4_advance_102 f (w_t.1, z80, w_t.2.2.1, w_t.2.1, w_t.2.2.2.2.1, w_t.2.2.2.2.2) v1_72) else ((M_X4_endName f (w_t.1, z80, w_t.2.2.1, w_t.2.1, w_t.2.2.2.2.1, w_t.2.2.2.2.2)).bind (fun u96 => some u96))))))) else (some (w_t.1, w_t.2.1, 0, w_t.2.1, w_t.2.2.2.2.1, w_t.2.2.2.2.2))
set_option maxHeartbeats 4000000 in
set_option maxRecDepth 100000 in
theorem b_X4_advance_38 {p : Program} {l : Launch} {e : Env} {s : State} {m : MethodId} {args : Array Value} {below : List Frame} {meth : Method} {c : Code} {D : va_G} {cy : Nat → ClassId} {A : Nat → Prop} {q_t : Nat} {q_t_bytes : Nat} {res : s_T}  {f : Nat} {w_t : s_T}  (C0 : cx_C cX4_advance (none) 2 RX4 (.code yX4_advance cX4_advance 2 (none) :: wg_L) p s m args meth c D cy A)  (h : B_X4_advance_38 f w_t = some res) {H : Heap} {locs : List Loc} {ls : Array Slot} (hP : va_P D vwCl (wc_X4_advance cy q_t q_t_bytes w_t) H) (hD : va_D A (wc_X4_advance cy q_t q_t_bytes w_t)) (hS : va_S A s.heap H locs) (hl : lv_has ls 2 [(0, .ref q_t)]) : W p l e rm_X4_advance s m args below meth c H locs 0 0 (qq_X4_advance below args s D cy A q_t q_t_bytes res) (F0 m 38 ls []) := by
  obtain ⟨hx, hb, hr, hml, hown, hts, hK, hlocks, hA⟩ := id C0
  unfold B_X4_advance_38 at h
  refine lv_aload_n hx hb dX4_advance_38 rfl (lv_at hl 0 rfl) ?_
  refine lv_aload_n hx hb dX4_advance_39 rfl (lv_at hl 0 rfl) ?_
  refine va_get (D := D) (ci := 4) (v := .int w_t.2.1) (C := RX4) (T := TX4) (N := 6) hx hb hts (fun w hw => List.mem_cons_of_mem _ (uw_X4 w hw)) hown hK.1 hP 0 rfl rfl 2 (by decide) (hts _ (List.mem_cons_of_mem _ k_119)) (fun _ h9 => h9) rfl dX4_advance_40 ?_
  refine va_put (D := D) (ci := 4) (v := .int w_t.2.1) (ty := .int) (C := RX4) (T := TX4) (N := 6) hx hb hts (fun w hw => List.mem_cons_of_mem _ (uw_X4 w hw)) tyX4 tyX4_ok nmX4 hown hK.1 hP hD hS 0 rfl rfl 4 (by decide) (hts _ (List.mem_cons_of_mem _ k_123)) (fun _ h9 => h9) rfl (by decide +kernel) rfl rfl (Nat.le_of_ble_eq_true rfl) dX4_advance_43 (fun H locs hP hD hS => ?_)
  have hP : va_P D vwCl (wc_X4_advance cy q_t q_t_bytes (w_t.1, w_t.2.1, w_t.2.2.1, w_t.2.1, w_t.2.2.2.2.1, w_t.2.2.2.2.2)) H := hP
  have hD : va_D A (wc_X4_advance cy q_t q_t_bytes (w_t.1, w_t.2.1, w_t.2.2.1, w_t.2.1, w_t.2.2.2.2.1, w_t.2.2.2.2.2)) := hD
  refine lv_aload_n hx hb dX4_advance_46 rfl (lv_at hl 0 rfl) ?_
  refine va_get (D := D) (ci := 4) (v := .int w_t.2.1) (C := RX4) (T := TX4) (N := 6) hx hb hts (fun w hw => List.mem_cons_of_mem _ (uw_X4 w hw)) hown hK.1 hP 0 rfl rfl 2 (by decide) (hts _ (List.mem_cons_of_mem _ k_119)) (fun _ h9 => h9) rfl dX4_advance_47 ?_
  refine lv_aload_n hx hb dX4_advance_50 rfl (lv_at hl 0 rfl) ?_
  refine va_get (D := D) (ci := 4) (v := .int w_t.1) (C := RX4) (T := TX4) (N := 6) hx hb hts (fun w hw => List.mem_cons_of_mem _ (uw_X4 w hw)) hown hK.1 hP 0 rfl rfl 1 (by decide) (hts _ (List.mem_cons_of_mem _ k_116)) (fun _ h9 => h9) rfl dX4_advance_51 ?_
  refine lv_icmp_lt (tgt := 63) hx hb dX4_advance_54 (by decide) (fun c54 => ?_) (fun c54 => ?_)
  · replace h := it_p c54 h
    refine lv_aload_n hx hb dX4_advance_63 rfl (lv_at hl 0 rfl) ?_
    refine va_get (D := D) (ci := 4) (v := .ref q_t_bytes) (C := RX4) (T := TX4) (N := 6) hx hb hts (fun w hw => List.mem_cons_of_mem _ (uw_X4 w hw)) hown hK.1 hP 0 rfl rfl 0 (by decide) (hts _ (List.mem_cons_of_mem _ k_114)) (fun _ h9 => h9) rfl dX4_advance_64 ?_
    refine lv_aload_n hx hb dX4_advance_67 rfl (lv_at hl 0 rfl) ?_
    refine va_get (D := D) (ci := 4) (v := .int w_t.2.1) (C := RX4) (T := TX4) (N := 6) hx hb hts (fun w hw => List.mem_cons_of_mem _ (uw_X4 w hw)) hown hK.1 hP 0 rfl rfl 2 (by decide) (hts _ (List.mem_cons_of_mem _ k_119)) (fun _ h9 => h9) rfl dX4_advance_68 ?_
    obtain ⟨hi1, h⟩ := gi_d h
    refine va_bald hx hb hK.1 hP 1 0 rfl rfl hi1 dX4_advance_71 ?_
    refine lv_topi (fun v1_72 ev1_72 => ?_)
    replace h := nm_d ev1_72 h
    refine lv_istore_n (lv' := [(1, .int v1_72), (0, .ref q_t)]) hx hb dX4_advance_72 rfl hl (by decide) rfl (fun ls hl => ?_)
    refine lv_aload_n hx hb dX4_advance_73 rfl (lv_at hl 1 rfl) ?_
    refine lv_dup hx hb dX4_advance_74 rfl ?_
    refine va_get (D := D) (ci := 4) (v := .int w_t.2.1) (C := RX4) (T := TX4) (N := 6) hx hb hts (fun w hw => List.mem_cons_of_mem _ (uw_X4 w hw)) hown hK.1 hP 0 rfl rfl 2 (by decide) (hts _ (List.mem_cons_of_mem _ k_119)) (fun _ h9 => h9) rfl dX4_advance_75 ?_
    refine lv_iconst (v := 1) hx hb dX4_advance_78 (by decide) ?_
    refine lv_iadd hx hb dX4_advance_79 ?_
    refine lv_topi (fun z80 ez80 => ?_)
    replace h := nm_d ez80 h
    refine va_put (D := D) (ci := 4) (v := .int z80) (ty := .int) (C := RX4) (T := TX4) (N := 6) hx hb hts (fun w hw => List.mem_cons_of_mem _ (uw_X4 w hw)) tyX4 tyX4_ok nmX4 hown hK.1 hP hD hS 0 rfl rfl 2 (by decide) (hts _ (List.mem_cons_of_mem _ k_119)) (fun _ h9 => h9) rfl (by decide +kernel) rfl rfl (Nat.le_of_ble_eq_true rfl) dX4_advance_80 (fun H locs hP hD hS => ?_)
    have hP : va_P D vwCl (wc_X4_advance cy q_t q_t_bytes (w_t.1, z80, w_t.2.2.1, w_t.2.1, w_t.2.2.2.2.1, w_t.2.2.2.2.2)) H := hP
    have hD : va_D A (wc_X4_advance cy q_t q_t_bytes (w_t.1, z80, w_t.2.2.1, w_t.2.1, w_t.2.2.2.2.1, w_t.2.2.2.2.2)) := hD
    refine lv_iload_n hx hb dX4_advance_83 rfl (lv_at hl 0 rfl) ?_
    refine lv_bipush (v := 97) hx hb dX4_advance_84 (by decide) ?_
    refine lv_icmp_lt (tgt := 102) hx hb dX4_advance_86 (by decide) (fun c86 => ?_) (fun c86 => ?_)
    · replace h := it_p c86 h
      exact b_X4_advance_102 C0 h hP hD hS (lv_sub hl [1, 0] rfl)
    · replace h := it_n c86 h
      refine lv_iload_n hx hb dX4_advance_89 rfl (lv_at hl 0 rfl) ?_
      refine lv_bipush (v := 122) hx hb dX4_advance_90 (by decide) ?_
      refine lv_icmp_gt (tgt := 102) hx hb dX4_advance_92 (by decide) (fun c92 => ?_) (fun c92 => ?_)
      · replace h := it_p c92 h
        exact b_X4_advance_102 C0 h hP hD hS (lv_sub hl [1, 0] rfl)
      · replace h := it_n c92 h
        refine lv_aload_n hx hb dX4_advance_95 rfl (lv_at hl 1 rfl) ?_
        obtain ⟨u96, hc96, h⟩ := bd_d h
        have hPc := hP.sub (ws' := wc_X4_endName cy q_t q_t_bytes (w_t.1, z80, w_t.2.2.1, w_t.2.1, w_t.2.2.2.2.1, w_t.2.2.2.2.2)) [0, 1] rfl
        have hDc := hD.sub (ws' := wc_X4_endName cy q_t q_t_bytes (w_t.1, z80, w_t.2.2.1, w_t.2.1, w_t.2.2.2.2.1, w_t.2.2.2.2.2)) [0, 1] (by decide) rfl
        refine cl_v (fun (u : s_T) => wc_X4_advance cy q_t q_t_bytes u) (va_runV (As := []) (rest := []) (C := RX4) ⟨hx, hb, hml, hown, hts⟩ (c_X4_endName l D cy H.size q_t q_t_bytes (w_t.1, z80, w_t.2.2.1, w_t.2.1, w_t.2.2.2.2.1, w_t.2.2.2.2.2) hc96) ⟨callB_of 0 hts (wg_in k_266) rfl rfl rfl (hts _ (List.mem_cons_of_mem _ k_4)) (hts _ (List.mem_cons_of_mem _ k_263)) (by decide +kernel) ⟨by decide, by decide⟩, (hts _ (List.mem_cons_of_mem _ k_265)), (hts _ (List.mem_cons_of_mem _ ks_0))⟩ ⟨st_blind, va_recv hK.1 hPc (ci := 4) (q0 := 0) rfl rfl, fun U hU hW => st_pre hK hPc hDc hU hW⟩ rfl rfl hl.1 rfl (lv_room (Nat.le_of_ble_eq_true rfl)) dX4_advance_96 ⟨by decide, by decide⟩) hP hD hS hA [0, 1] [] [0, 1] rfl rfl (by decide) (by decide) (by decide) (fun _ => rfl) (fun u H locs hw hP hD hS => ?_)
        obtain rfl := hw.symm
        have hP : va_P D vwCl (wc_X4_advance cy q_t q_t_bytes u96) H := hP
        have hD : va_D A (wc_X4_advance cy q_t q_t_bytes u96) := hD
        refine lv_goto (tgt := 140) hx hb dX4_advance_99 (by decide) ?_
        obtain rfl := Option.some.inj h
        exact W.vret hx hb hr (fun tt ht hW => ⟨⟨u96, rfl, rfl, by rw [ht]; exact hP, kk_warm hW hK, hD⟩, hS.F ht⟩) hS.2.2 dX4_advance_140
  · replace h := it_n c54 h
    refine lv_aload_n hx hb dX4_advance_57 rfl (lv_at hl 0 rfl) ?_
    refine lv_iconst (v := 0) hx hb dX4_advance_58 (by decide) ?_
    refine va_put (D := D) (ci := 4) (v := .int 0) (ty := .int) (C := RX4) (T := TX4) (N := 6) hx hb hts (fun w hw => List.mem_cons_of_mem _ (uw_X4 w hw)) tyX4 tyX4_ok nmX4 hown hK.1 hP hD hS 0 rfl rfl 3 (by decide) (hts _ (List.mem_cons_of_mem _ k_122)) (fun _ h9 => h9) rfl (by decide +kernel) rfl rfl (Nat.le_of_ble_eq_true rfl) dX4_advance_59 (fun H locs hP hD hS => ?_)
    have hP : va_P D vwCl (wc_X4_advance cy q_t q_t_bytes (w_t.1, w_t.2.1, 0, w_t.2.1, w_t.2.2.2.2.1, w_t.2.2.2.2.2)) H := hP
    have hD : va_D A (wc_X4_advance cy q_t q_t_bytes (w_t.1, w_t.2.1, 0, w_t.2.1, w_t.2.2.2.2.1, w_t.2.2.2.2.2)) := hD
    obtain rfl := Option.some.inj h
    exact W.vret hx hb hr (fun tt ht hW => ⟨⟨(w_t.1, w_t.2.1, 0, w_t.2.1, w_t.2.2.2.2.1, w_t.2.2.2.2.2), rfl, rfl, by rw [ht]; exact hP, kk_warm hW hK, hD⟩, hS.F ht⟩) hS.2.2 dX4_advance_62
def B_X4_advance_0 (k0 : s_T → Option (s_T))  (f : Nat) (w_t : s_T)  : Option (s_T) := if w_t.1 ≤ w_t.2.1 then (B_X4_advance_38 f w_t) else (gi_n w_t.2.1 160 (if (w_t.2.2.2.2.2 w_t.2.1.toNatClampNeg) = 32 then (nm_v (w_t.2.1 + 1) (fun z32 => k0 (w_t.1, z32, w_t.2.2.1, w_t.2.2.2.1, w_t.2.2.2.2.1, w_t.2.2.2.2.2))) else (B_X4_advance_38 f w_t)))
set_option maxHeartbeats 4000000 in
set_option maxRecDepth 100000 in
theorem b_X4_advance_0 {p : Program} {l : Launch} {e : Env} {s : State} {m : MethodId} {args : Array Value} {below : List Frame} {meth : Method} {c : Code} {D : va_G} {cy : Nat → ClassId} {A : Nat → Prop} {q_t : Nat} {q_t_bytes : Nat} {res : s_T} {k0 : s_T → Option (s_T)} {f : Nat} {w_t : s_T}  (C0 : cx_C cX4_advance (none) 2 RX4 (.code yX4_advance cX4_advance 2 (none) :: wg_L) p s m args meth c D cy A) (hk0 : ∀ (w_t : s_T), k0 w_t = some res → ∀ (H : Heap) (locs : List Loc) (ls : Array Slot), va_P D vwCl (wc_X4_advance cy q_t q_t_bytes w_t) H → va_D A (wc_X4_advance cy q_t q_t_bytes w_t) → va_S A s.heap H locs → lv_has ls 2 [(0, .ref q_t)] → W p l e rm_X4_advance s m args below meth c H locs 0 0 (qq_X4_advance below args s D cy A q_t q_t_bytes res) (F0 m 0 ls [])) (h : B_X4_advance_0 k0 f w_t = some res) {H : Heap} {locs : List Loc} {ls : Array Slot} (hP : va_P D vwCl (wc_X4_advance cy q_t q_t_bytes w_t) H) (hD : va_D A (wc_X4_advance cy q_t q_t_bytes w_t)) (hS : va_S A s.heap H locs) (hl : lv_has ls 2 [(0, .ref q_t)]) : W p l e rm_X4_advance s m args below meth c H locs 0 0 (qq_X4_advance below args s D cy A q_t q_t_bytes res) (F0 m 0 ls []) := by
  obtain ⟨hx, hb, hr, hml, hown, hts, hK, hlocks, hA⟩ := id C0
  unfold B_X4_advance_0 at h
  refine lv_aload_n hx hb dX4_advance_0 rfl (lv_at hl 0 rfl) ?_
  refine va_get (D := D) (ci := 4) (v := .int w_t.2.1) (C := RX4) (T := TX4) (N := 6) hx hb hts (fun w hw => List.mem_cons_of_mem _ (uw_X4 w hw)) hown hK.1 hP 0 rfl rfl 2 (by decide) (hts _ (List.mem_cons_of_mem _ k_119)) (fun _ h9 => h9) rfl dX4_advance_1 ?_
  refine lv_aload_n hx hb dX4_advance_4 rfl (lv_at hl 0 rfl) ?_
  refine va_get (D := D) (ci := 4) (v := .int w_t.1) (C := RX4) (T := TX4) (N := 6) hx hb hts (fun w hw => List.mem_cons_of_mem _ (uw_X4 w hw)) hown hK.1 hP 0 rfl rfl 1 (by decide) (hts _ (List.mem_cons_of_mem _ k_116)) (fun _ h9 => h9) rfl dX4_advance_5 ?_
  refine lv_icmp_ge (tgt := 38) hx hb dX4_advance_8 (by decide) (fun c8 => ?_) (fun c8 => ?_)
  · replace h := it_p c8 h
    exact b_X4_advance_38 C0 h hP hD hS (lv_sub hl [0] rfl)
  · replace h := it_n c8 h
    refine lv_aload_n hx hb dX4_advance_11 rfl (lv_at hl 0 rfl) ?_
    refine va_get (D := D) (ci := 4) (v := .ref q_t_bytes) (C := RX4) (T := TX4) (N := 6) hx hb hts (fun w hw => List.mem_cons_of_mem _ (uw_X4 w hw)) hown hK.1 hP 0 rfl rfl 0 (by decide) (hts _ (List.mem_cons_of_mem _ k_114)) (fun _ h9 => h9) rfl dX4_advance_12 ?_
    refine lv_aload_n hx hb dX4_advance_15 rfl (lv_at hl 0 rfl) ?_
    refine va_get (D := D) (ci := 4) (v := .int w_t.2.1) (C := RX4) (T := TX4) (N := 6) hx hb hts (fun w hw => List.mem_cons_of_mem _ (uw_X4 w hw)) hown hK.1 hP 0 rfl rfl 2 (by decide) (hts _ (List.mem_cons_of_mem _ k_119)) (fun _ h9 => h9) rfl dX4_advance_16 ?_
    obtain ⟨hi2, h⟩ := gi_d h
    refine va_bald hx hb hK.1 hP 1 0 rfl rfl hi2 dX4_advance_19 ?_
    refine lv_bipush (v := 32) hx hb dX4_advance_20 (by decide) ?_
    refine lv_icmp_ne (tgt := 38) hx hb dX4_advance_22 (by decide) (fun c22 => ?_) (fun c22 => ?_)
    · replace h := it_n c22 h
      exact b_X4_advance_38 C0 h hP hD hS (lv_sub hl [0] rfl)
    · replace h := it_p c22 h
      refine lv_aload_n hx hb dX4_advance_25 rfl (lv_at hl 0 rfl) ?_
      refine lv_dup hx hb dX4_advance_26 rfl ?_
      refine va_get (D := D) (ci := 4) (v := .int w_t.2.1) (C := RX4) (T := TX4) (N := 6) hx hb hts (fun w hw => List.mem_cons_of_mem _ (uw_X4 w hw)) hown hK.1 hP 0 rfl rfl 2 (by decide) (hts _ (List.mem_cons_of_mem _ k_119)) (fun _ h9 => h9) rfl dX4_advance_27 ?_
      refine lv_iconst (v := 1) hx hb dX4_advance_30 (by decide) ?_
      refine lv_iadd hx hb dX4_advance_31 ?_
      refine lv_topi (fun z32 ez32 => ?_)
      replace h := nm_d ez32 h
      refine va_put (D := D) (ci := 4) (v := .int z32) (ty := .int) (C := RX4) (T := TX4) (N := 6) hx hb hts (fun w hw => List.mem_cons_of_mem _ (uw_X4 w hw)) tyX4 tyX4_ok nmX4 hown hK.1 hP hD hS 0 rfl rfl 2 (by decide) (hts _ (List.mem_cons_of_mem _ k_119)) (fun _ h9 => h9) rfl (by decide +kernel) rfl rfl (Nat.le_of_ble_eq_true rfl) dX4_advance_32 (fun H locs hP hD hS => ?_)
      have hP : va_P D vwCl (wc_X4_advance cy q_t q_t_bytes (w_t.1, z32, w_t.2.2.1, w_t.2.2.2.1, w_t.2.2.2.2.1, w_t.2.2.2.2.2)) H := hP
      have hD : va_D A (wc_X4_advance cy q_t q_t_bytes (w_t.1, z32, w_t.2.2.1, w_t.2.2.2.1, w_t.2.2.2.2.1, w_t.2.2.2.2.2)) := hD
      refine lv_goto (tgt := 0) hx hb dX4_advance_35 (by decide) ?_
      exact hk0 _ h _ _ _ hP hD hS (lv_sub hl [0] rfl)
def M_X4_advance_0   : Nat → s_T → Option (s_T)
  | 0, _ => none
  | f + 1, w_t => B_X4_advance_0 (M_X4_advance_0 f) f w_t
theorem t_X4_advance_0 {p : Program} {l : Launch} {e : Env} {s : State} {m : MethodId} {args : Array Value} {below : List Frame} {meth : Method} {c : Code} {D : va_G} {cy : Nat → ClassId} {A : Nat → Prop} {q_t : Nat} {q_t_bytes : Nat} {res : s_T}  (C0 : cx_C cX4_advance (none) 2 RX4 (.code yX4_advance cX4_advance 2 (none) :: wg_L) p s m args meth c D cy A)  : ∀ (f : Nat) (w_t : s_T) , M_X4_advance_0 f w_t = some res → ∀ (H : Heap) (locs : List Loc) (ls : Array Slot), va_P D vwCl (wc_X4_advance cy q_t q_t_bytes w_t) H → va_D A (wc_X4_advance cy q_t q_t_bytes w_t) → va_S A s.heap H locs → lv_has ls 2 [(0, .ref q_t)] → W p l e rm_X4_advance s m args below meth c H locs 0 0 (qq_X4_advance below args s D cy A q_t q_t_bytes res) (F0 m 0 ls []) := by
  intro f
  induction f with
  | zero =>
    intro _ h
    exact absurd (show (none : Option (s_T)) = some res from h) (fun q => by cases q)
  | succ f ih =>
    intro w_t h H locs ls hP hD hS hl
    have h : B_X4_advance_0 (M_X4_advance_0 f) f w_t = some res := h
    exact b_X4_advance_0 C0 ih h hP hD hS hl
def M_X4_advance   (f : Nat) (w_t : s_T)  : Option (s_T) := M_X4_advance_0 f w_t
set_option maxHeartbeats 4000000 in
set_option maxRecDepth 100000 in
theorem c_X4_advance (l : Launch) (D : va_G) (cy : Nat → ClassId) (sz : Nat) (q_t : Nat) (q_t_bytes : Nat) (w_t : s_T)  {f : Nat} {res : s_T} (h : M_X4_advance f w_t = some res) : ct_v l yX4_advance (.code yX4_advance cX4_advance 2 (none) :: wg_L) rm_X4_advance D cy sz (wc_X4_advance cy q_t q_t_bytes w_t) [.ref q_t] (fun (u : s_T) => u = res) (fun (u : s_T) => wc_X4_advance cy q_t q_t_bytes u) := by
  refine Met.ofW (cc := cX4_advance) (maxL := 2) (ret := none) (by decide) rfl ?_
  intro p e s m args below meth c s₁ B hml hv
  obtain ⟨rfl, hsz, hP, hK, hD0⟩ := hv
  subst hsz
  have hD := hD0.self (sz := s.heap.size)
  have hl := lv_entry ([.ref q_t]) (n := 2) (Nat.le_of_ble_eq_true rfl)
  rw [lg_entry_eq]
  have C0 : cx_C cX4_advance (none) 2 RX4 (.code yX4_advance cX4_advance 2 (none) :: wg_L) p s m [.ref q_t].toArray meth c D cy (va_A (wc_X4_advance cy q_t q_t_bytes w_t) s.heap.size) := ⟨B.exec, B.bytes, B.returns, hml, findClass_of_methodNamed B.named, atoms_spec (ws := .code yX4_advance cX4_advance 2 (none) :: wg_L) B.pre, hK, B.notSynchronized, fun q h => Or.inr h⟩
  exact t_X4_advance_0 C0 _ _ h _ _ _ hP hD va_S.rf (lv_sub hl [0] rfl)
