/-! ### BarrowGrief$Tape.spells(Ljava/lang/String;)Z -/
abbrev wc_X4_spells (cy : Nat → ClassId) (q_t q_t_bytes : Nat) (n_s1 : Nat) (w_t : s_T) : va_W := [(q_t, .inr (4, [.ref q_t_bytes, .int w_t.1, .int w_t.2.1, .int w_t.2.2.1, .int w_t.2.2.2.1, .int w_t.2.2.2.2.1])), (q_t_bytes, .inl (cy 0, 160, .inl w_t.2.2.2.2.2))]
abbrev rm_X4_spells : Room := { frames := 4, cells := 0, slots := 0, locals := 100 }
abbrev qq_X4_spells (below : List Frame) (args : Array Value) (s : State) (D : va_G) (cy : Nat → ClassId) (A : Nat → Prop) (q_t : Nat) (q_t_bytes : Nat) (n_s1 : Nat) (w_t : s_T) (res : Int32) : State → Prop := MQ below (va_Qi (fun r (_ : Unit) => r = res) (fun u t => st_B D cy A ((fun (u : Unit) => wc_X4_spells cy q_t q_t_bytes n_s1 w_t) u) t) A) args s 0 0 A
def B_X4_spells_20 (k20 : Int32 → Option (Int32)) (n_s1 : Nat) (w_t : s_T) (f : Nat)  (v2 : Int32) : Option (Int32) := gs_k n_s1 (if (nI (sl_L.getD n_s1 0)) ≤ v2 then (some 1) else (if w_t.1 ≤ (w_t.2.2.2.1 + v2) then (some 1) else (gi_n (w_t.2.2.2.1 + v2) 160 (gs_k n_s1 (gi_n v2 (sl_L.getD n_s1 0) (if (w_t.2.2.2.2.2 (w_t.2.2.2.1 + v2).toNatClampNeg) = (sy_n n_s1 v2.toNatClampNeg) then (k20 (v2 + 1)) else (some 0)))))))
set_option maxHeartbeats 4000000 in
set_option maxRecDepth 100000 in
theorem b_X4_spells_20 {p : Program} {l : Launch} {e : Env} {s : State} {m : MethodId} {args : Array Value} {below : List Frame} {meth : Method} {c : Code} {D : va_G} {cy : Nat → ClassId} {A : Nat → Prop} {X : (Nat → Nat) × (Nat → Nat)} {q_t : Nat} {q_t_bytes : Nat} {n_s1 : Nat} {w_t : s_T} {res : Int32} {k20 : Int32 → Option (Int32)} {f : Nat}  {v2 : Int32} (C0 : cx_C cX4_spells ((some .boolean)) 3 RX4 (.code yX4_spells cX4_spells 3 ((some .boolean)) :: wg_L) p s m args meth c D cy A) (E0 : sx_E X A s s.heap) (hk20 : ∀  (v2 : Int32), k20 v2 = some res → ∀ (H : Heap) (locs : List Loc) (ls : Array Slot), va_P D vwCl (wc_X4_spells cy q_t q_t_bytes n_s1 w_t) H → va_D A (wc_X4_spells cy q_t q_t_bytes n_s1 w_t) → va_S A s.heap H locs → lv_has ls 3 [(0, .ref q_t), (1, .ref (X.1 n_s1)), (2, .int v2)] → W p l e rm_X4_spells s m args below meth c H locs 0 0 (qq_X4_spells below args s D cy A q_t q_t_bytes n_s1 w_t res) (F0 m 20 ls [])) (h : B_X4_spells_20 k20 n_s1 w_t f v2 = some res) {H : Heap} {locs : List Loc} {ls : Array Slot} (hP : va_P D vwCl (wc_X4_spells cy q_t q_t_bytes n_s1 w_t) H) (hD : va_D A (wc_X4_spells cy q_t q_t_bytes n_s1 w_t)) (hS : va_S A s.heap H locs) (hl : lv_has ls 3 [(0, .ref q_t), (1, .ref (X.1 n_s1)), (2, .int v2)]) : W p l e rm_X4_spells s m args below meth c H locs 0 0 (qq_X4_spells below args s D cy A q_t q_t_bytes n_s1 w_t res) (F0 m 20 ls []) := by
  obtain ⟨hx, hb, hr, hml, hown, hts, hK, hlocks, hA⟩ := id C0
  unfold B_X4_spells_20 at h
  refine lv_iload_n hx hb dX4_spells_20 rfl (lv_at hl 2 rfl) ?_
  refine lv_aload_n hx hb dX4_spells_21 rfl (lv_at hl 1 rfl) ?_
  obtain ⟨hk1, h⟩ := gs_d h
  have hPc := hP.sub (ws' := []) [] rfl
  have hDc := hD.sub (ws' := []) [] (by decide) rfl
  have hEc := sx_nar (sx_kept E0 hS.2.1) (va_free (wc := []) hD hS hA [] rfl)
  refine cl_i (fun (_ : Unit) => wc_X4_spells cy q_t q_t_bytes n_s1 w_t) (va_runV (As := []) (rest := [.int v2]) (C := RJ0) ⟨hx, hb, hml, hown, hts⟩ (c_J0_length l D cy H.size X hk1) ⟨callB_of 0 hts (wg_in k_295) rfl rfl rfl (hts _ (List.mem_cons_of_mem _ k_9)) (hts _ (List.mem_cons_of_mem _ k_292)) (by decide +kernel) ⟨by decide, by decide⟩, (hts _ (List.mem_cons_of_mem _ k_293)), (hts _ (List.mem_cons_of_mem _ k_294))⟩ ⟨sx_blind, vk_recv E0.1 hk1 hS, fun U hU hW => sx_pre hK hPc hDc hEc hU hW⟩ rfl rfl hl.1 rfl (lv_room (Nat.le_of_ble_eq_true rfl)) dX4_spells_22 ⟨by decide, by decide⟩) hP hD hS hA [] [0, 1] [0, 1] rfl rfl (by decide) (by decide) (by decide) (fun _ => rfl) (fun r u H locs hw hP hD hS => ?_)
  obtain rfl := hw.symm
  refine lv_icmp_ge (tgt := 68) hx hb dX4_spells_25 (by decide) (fun c25 => ?_) (fun c25 => ?_)
  · replace h := it_p c25 h
    refine lv_iconst (v := 1) hx hb dX4_spells_68 (by decide) ?_
    obtain rfl := Option.some.inj h
    exact W.zret (v := 1) hx hb hr (by decide) (fun tt ht hW => ⟨⟨1, (), rfl, rfl, by rw [ht]; exact hP, kk_warm hW hK, hD⟩, hS.F ht⟩) hS.2.2 dX4_spells_69
  · replace h := it_n c25 h
    refine lv_aload_n hx hb dX4_spells_28 rfl (lv_at hl 0 rfl) ?_
    refine va_get (D := D) (ci := 4) (v := .int w_t.2.2.2.1) (C := RX4) (T := TX4) (N := 6) hx hb hts (fun w hw => List.mem_cons_of_mem _ (uw_X4 w hw)) hown hK.1 hP 0 rfl rfl 4 (by decide) (hts _ (List.mem_cons_of_mem _ k_123)) (fun _ h9 => h9) rfl dX4_spells_29 ?_
    refine lv_iload_n hx hb dX4_spells_32 rfl (lv_at hl 2 rfl) ?_
    refine lv_iadd hx hb dX4_spells_33 ?_
    refine lv_aload_n hx hb dX4_spells_34 rfl (lv_at hl 0 rfl) ?_
    refine va_get (D := D) (ci := 4) (v := .int w_t.1) (C := RX4) (T := TX4) (N := 6) hx hb hts (fun w hw => List.mem_cons_of_mem _ (uw_X4 w hw)) hown hK.1 hP 0 rfl rfl 1 (by decide) (hts _ (List.mem_cons_of_mem _ k_116)) (fun _ h9 => h9) rfl dX4_spells_35 ?_
    refine lv_icmp_ge (tgt := 68) hx hb dX4_spells_38 (by decide) (fun c38 => ?_) (fun c38 => ?_)
    · replace h := it_p c38 h
      refine lv_iconst (v := 1) hx hb dX4_spells_68 (by decide) ?_
      obtain rfl := Option.some.inj h
      exact W.zret (v := 1) hx hb hr (by decide) (fun tt ht hW => ⟨⟨1, (), rfl, rfl, by rw [ht]; exact hP, kk_warm hW hK, hD⟩, hS.F ht⟩) hS.2.2 dX4_spells_69
    · replace h := it_n c38 h
      refine lv_aload_n hx hb dX4_spells_41 rfl (lv_at hl 0 rfl) ?_
      refine va_get (D := D) (ci := 4) (v := .ref q_t_bytes) (C := RX4) (T := TX4) (N := 6) hx hb hts (fun w hw => List.mem_cons_of_mem _ (uw_X4 w hw)) hown hK.1 hP 0 rfl rfl 0 (by decide) (hts _ (List.mem_cons_of_mem _ k_114)) (fun _ h9 => h9) rfl dX4_spells_42 ?_
      refine lv_aload_n hx hb dX4_spells_45 rfl (lv_at hl 0 rfl) ?_
      refine va_get (D := D) (ci := 4) (v := .int w_t.2.2.2.1) (C := RX4) (T := TX4) (N := 6) hx hb hts (fun w hw => List.mem_cons_of_mem _ (uw_X4 w hw)) hown hK.1 hP 0 rfl rfl 4 (by decide) (hts _ (List.mem_cons_of_mem _ k_123)) (fun _ h9 => h9) rfl dX4_spells_46 ?_
      refine lv_iload_n hx hb dX4_spells_49 rfl (lv_at hl 2 rfl) ?_
      refine lv_iadd hx hb dX4_spells_50 ?_
      obtain ⟨hi2, h⟩ := gi_d h
      refine va_bald hx hb hK.1 hP 1 0 rfl rfl hi2 dX4_spells_51 ?_
      refine lv_aload_n hx hb dX4_spells_52 rfl (lv_at hl 1 rfl) ?_
      refine lv_iload_n hx hb dX4_spells_53 rfl (lv_at hl 2 rfl) ?_
      obtain ⟨hk3, h⟩ := gs_d h
      obtain ⟨hi4, h⟩ := gi_d h
      have hPc := hP.sub (ws' := []) [] rfl
      have hDc := hD.sub (ws' := []) [] (by decide) rfl
      have hEc := sx_nar (sx_kept E0 hS.2.1) (va_free (wc := []) hD hS hA [] rfl)
      refine cl_i (fun (_ : Unit) => wc_X4_spells cy q_t q_t_bytes n_s1 w_t) (va_runV (As := [.int v2]) (rest := [.int (w_t.2.2.2.2.2 (w_t.2.2.2.1 + v2).toNatClampNeg)]) (C := RJ0) ⟨hx, hb, hml, hown, hts⟩ (c_J0_charAt l D cy H.size X hk3 hi4) ⟨callB_of 1 hts (wg_in k_305) rfl rfl rfl (hts _ (List.mem_cons_of_mem _ k_9)) (hts _ (List.mem_cons_of_mem _ k_302)) (by decide +kernel) ⟨by decide, by decide⟩, (hts _ (List.mem_cons_of_mem _ k_303)), (hts _ (List.mem_cons_of_mem _ k_304))⟩ ⟨sx_blind, vk_recv E0.1 hk3 hS, fun U hU hW => sx_pre hK hPc hDc hEc hU hW⟩ rfl rfl hl.1 rfl (lv_room (Nat.le_of_ble_eq_true rfl)) dX4_spells_54 ⟨by decide, by decide⟩) hP hD hS hA [] [0, 1] [0, 1] rfl rfl (by decide) (by decide) (by decide) (fun _ => rfl) (fun r u H locs hw hP hD hS => ?_)
      obtain rfl := hw.symm
      refine lv_icmp_eq (tgt := 62) hx hb dX4_spells_57 (by decide) (fun c57 => ?_) (fun c57 => ?_)
      · replace h := it_p c57 h
        refine lv_iinc (v := (v2 + 1)) (lv' := [(2, .int (v2 + 1)), (0, .ref q_t), (1, .ref (X.1 n_s1))]) hx hb dX4_spells_62 hl (k := 2) rfl (by rfl) (by decide) rfl (fun ls hl => ?_)
        refine lv_goto (tgt := 20) hx hb dX4_spells_65 (by decide) ?_
        exact hk20 _ h _ _ _ hP hD hS (lv_sub hl [1, 2, 0] rfl)
      · replace h := it_n c57 h
        refine lv_iconst (v := 0) hx hb dX4_spells_60 (by decide) ?_
        obtain rfl := Option.some.inj h
        exact W.zret (v := 0) hx hb hr (by decide) (fun tt ht hW => ⟨⟨0, (), rfl, rfl, by rw [ht]; exact hP, kk_warm hW hK, hD⟩, hS.F ht⟩) hS.2.2 dX4_spells_61
def M_X4_spells_20  (n_s1 : Nat) (w_t : s_T) : Nat → Int32 → Option (Int32)
  | 0, _ => none
  | f + 1, v2 => B_X4_spells_20 (M_X4_spells_20 n_s1 w_t f) n_s1 w_t f v2
theorem t_X4_spells_20 {p : Program} {l : Launch} {e : Env} {s : State} {m : MethodId} {args : Array Value} {below : List Frame} {meth : Method} {c : Code} {D : va_G} {cy : Nat → ClassId} {A : Nat → Prop} {X : (Nat → Nat) × (Nat → Nat)} {q_t : Nat} {q_t_bytes : Nat} {n_s1 : Nat} {w_t : s_T} {res : Int32}  (C0 : cx_C cX4_spells ((some .boolean)) 3 RX4 (.code yX4_spells cX4_spells 3 ((some .boolean)) :: wg_L) p s m args meth c D cy A) (E0 : sx_E X A s s.heap)  : ∀ (f : Nat)  (v2 : Int32), M_X4_spells_20 n_s1 w_t f v2 = some res → ∀ (H : Heap) (locs : List Loc) (ls : Array Slot), va_P D vwCl (wc_X4_spells cy q_t q_t_bytes n_s1 w_t) H → va_D A (wc_X4_spells cy q_t q_t_bytes n_s1 w_t) → va_S A s.heap H locs → lv_has ls 3 [(0, .ref q_t), (1, .ref (X.1 n_s1)), (2, .int v2)] → W p l e rm_X4_spells s m args below meth c H locs 0 0 (qq_X4_spells below args s D cy A q_t q_t_bytes n_s1 w_t res) (F0 m 20 ls []) := by
  intro f
  induction f with
  | zero =>
    intro _ h
    exact absurd (show (none : Option (Int32)) = some res from h) (fun q => by cases q)
  | succ f ih =>
    intro v2 h H locs ls hP hD hS hl
    have h : B_X4_spells_20 (M_X4_spells_20 n_s1 w_t f) n_s1 w_t f v2 = some res := h
    exact b_X4_spells_20 C0 E0 ih h hP hD hS hl
def B_X4_spells_0  (n_s1 : Nat) (w_t : s_T) (f : Nat)   : Option (Int32) := gs_k n_s1 (if (w_t.2.1 - w_t.2.2.2.1) = (nI (sl_L.getD n_s1 0)) then (M_X4_spells_20 n_s1 w_t f 0) else (some 0))
set_option maxHeartbeats 4000000 in
set_option maxRecDepth 100000 in
theorem b_X4_spells_0 {p : Program} {l : Launch} {e : Env} {s : State} {m : MethodId} {args : Array Value} {below : List Frame} {meth : Method} {c : Code} {D : va_G} {cy : Nat → ClassId} {A : Nat → Prop} {X : (Nat → Nat) × (Nat → Nat)} {q_t : Nat} {q_t_bytes : Nat} {n_s1 : Nat} {w_t : s_T} {res : Int32}  {f : Nat}   (C0 : cx_C cX4_spells ((some .boolean)) 3 RX4 (.code yX4_spells cX4_spells 3 ((some .boolean)) :: wg_L) p s m args meth c D cy A) (E0 : sx_E X A s s.heap)  (h : B_X4_spells_0 n_s1 w_t f = some res) {H : Heap} {locs : List Loc} {ls : Array Slot} (hP : va_P D vwCl (wc_X4_spells cy q_t q_t_bytes n_s1 w_t) H) (hD : va_D A (wc_X4_spells cy q_t q_t_bytes n_s1 w_t)) (hS : va_S A s.heap H locs) (hl : lv_has ls 3 [(0, .ref q_t), (1, .ref (X.1 n_s1))]) : W p l e rm_X4_spells s m args below meth c H locs 0 0 (qq_X4_spells below args s D cy A q_t q_t_bytes n_s1 w_t res) (F0 m 0 ls []) := by
  obtain ⟨hx, hb, hr, hml, hown, hts, hK, hlocks, hA⟩ := id C0
  unfold B_X4_spells_0 at h
  refine lv_aload_n hx hb dX4_spells_0 rfl (lv_at hl 0 rfl) ?_
  refine va_get (D := D) (ci := 4) (v := .int w_t.2.1) (C := RX4) (T := TX4) (N := 6) hx hb hts (fun w hw => List.mem_cons_of_mem _ (uw_X4 w hw)) hown hK.1 hP 0 rfl rfl 2 (by decide) (hts _ (List.mem_cons_of_mem _ k_119)) (fun _ h9 => h9) rfl dX4_spells_1 ?_
  refine lv_aload_n hx hb dX4_spells_4 rfl (lv_at hl 0 rfl) ?_
  refine va_get (D := D) (ci := 4) (v := .int w_t.2.2.2.1) (C := RX4) (T := TX4) (N := 6) hx hb hts (fun w hw => List.mem_cons_of_mem _ (uw_X4 w hw)) hown hK.1 hP 0 rfl rfl 4 (by decide) (hts _ (List.mem_cons_of_mem _ k_123)) (fun _ h9 => h9) rfl dX4_spells_5 ?_
  refine lv_isub hx hb dX4_spells_8 ?_
  refine lv_aload_n hx hb dX4_spells_9 rfl (lv_at hl 1 rfl) ?_
  obtain ⟨hk5, h⟩ := gs_d h
  have hPc := hP.sub (ws' := []) [] rfl
  have hDc := hD.sub (ws' := []) [] (by decide) rfl
  have hEc := sx_nar (sx_kept E0 hS.2.1) (va_free (wc := []) hD hS hA [] rfl)
  refine cl_i (fun (_ : Unit) => wc_X4_spells cy q_t q_t_bytes n_s1 w_t) (va_runV (As := []) (rest := [.int (w_t.2.1 - w_t.2.2.2.1)]) (C := RJ0) ⟨hx, hb, hml, hown, hts⟩ (c_J0_length l D cy H.size X hk5) ⟨callB_of 0 hts (wg_in k_295) rfl rfl rfl (hts _ (List.mem_cons_of_mem _ k_9)) (hts _ (List.mem_cons_of_mem _ k_292)) (by decide +kernel) ⟨by decide, by decide⟩, (hts _ (List.mem_cons_of_mem _ k_293)), (hts _ (List.mem_cons_of_mem _ k_294))⟩ ⟨sx_blind, vk_recv E0.1 hk5 hS, fun U hU hW => sx_pre hK hPc hDc hEc hU hW⟩ rfl rfl hl.1 rfl (lv_room (Nat.le_of_ble_eq_true rfl)) dX4_spells_10 ⟨by decide, by decide⟩) hP hD hS hA [] [0, 1] [0, 1] rfl rfl (by decide) (by decide) (by decide) (fun _ => rfl) (fun r u H locs hw hP hD hS => ?_)
  obtain rfl := hw.symm
  refine lv_icmp_eq (tgt := 18) hx hb dX4_spells_13 (by decide) (fun c13 => ?_) (fun c13 => ?_)
  · replace h := it_p c13 h
    refine lv_iconst (v := 0) hx hb dX4_spells_18 (by decide) ?_
    refine lv_istore_n (lv' := [(2, .int 0), (0, .ref q_t), (1, .ref (X.1 n_s1))]) hx hb dX4_spells_19 rfl hl (by decide) rfl (fun ls hl => ?_)
    exact t_X4_spells_20 C0 E0 _ _ h _ _ _ hP hD hS (lv_sub hl [1, 2, 0] rfl)
  · replace h := it_n c13 h
    refine lv_iconst (v := 0) hx hb dX4_spells_16 (by decide) ?_
    obtain rfl := Option.some.inj h
    exact W.zret (v := 0) hx hb hr (by decide) (fun tt ht hW => ⟨⟨0, (), rfl, rfl, by rw [ht]; exact hP, kk_warm hW hK, hD⟩, hS.F ht⟩) hS.2.2 dX4_spells_17
def M_X4_spells  (n_s1 : Nat) (w_t : s_T) (f : Nat)   : Option (Int32) := B_X4_spells_0 n_s1 w_t f
set_option maxHeartbeats 4000000 in
set_option maxRecDepth 100000 in
theorem c_X4_spells (l : Launch) (D : va_G) (cy : Nat → ClassId) (sz : Nat) (X : (Nat → Nat) × (Nat → Nat)) (q_t : Nat) (q_t_bytes : Nat) (n_s1 : Nat) (w_t : s_T)  {f : Nat} {res : Int32} (h : M_X4_spells n_s1 w_t f = some res) : cx_i l yX4_spells (.code yX4_spells cX4_spells 3 ((some .boolean)) :: wg_L) rm_X4_spells D cy sz X (wc_X4_spells cy q_t q_t_bytes n_s1 w_t) [.ref q_t, .ref (X.1 n_s1)] (fun r (_ : Unit) => r = res) (fun (u : Unit) => wc_X4_spells cy q_t q_t_bytes n_s1 w_t) := by
  refine Met.ofW (cc := cX4_spells) (maxL := 3) (ret := (some .boolean)) (by decide) rfl ?_
  intro p e s m args below meth c s₁ B hml hv
  obtain ⟨rfl, hsz, hP, hK, hD0, hE⟩ := hv
  subst hsz
  have hD := hD0.self (sz := s.heap.size)
  have hl := lv_entry ([.ref q_t, .ref (X.1 n_s1)]) (n := 3) (Nat.le_of_ble_eq_true rfl)
  rw [lg_entry_eq]
  have C0 : cx_C cX4_spells ((some .boolean)) 3 RX4 (.code yX4_spells cX4_spells 3 ((some .boolean)) :: wg_L) p s m [.ref q_t, .ref (X.1 n_s1)].toArray meth c D cy (va_A (wc_X4_spells cy q_t q_t_bytes n_s1 w_t) s.heap.size) := ⟨B.exec, B.bytes, B.returns, hml, findClass_of_methodNamed B.named, atoms_spec (ws := .code yX4_spells cX4_spells 3 ((some .boolean)) :: wg_L) B.pre, hK, B.notSynchronized, fun q h => Or.inr h⟩
  exact b_X4_spells_0 C0 hE h hP hD va_S.rf (lv_sub hl [0, 1] rfl)
/-! ### BarrowGrief$Reader.refuse(I)Z -/
abbrev wc_X1_refuse (cy : Nat → ClassId) (q_t q_t_tape q_t_world : Nat) (w_t : s_R) : va_W := [(q_t, .inr (1, [.ref q_t_tape, .ref q_t_world, .int w_t.1, .int w_t.2.1, .int w_t.2.2]))]
abbrev rm_X1_refuse : Room := { frames := 0, cells := 0, slots := 0, locals := 0 }
abbrev qq_X1_refuse (below : List Frame) (args : Array Value) (s : State) (D : va_G) (cy : Nat → ClassId) (A : Nat → Prop) (q_t : Nat) (q_t_tape : Nat) (q_t_world : Nat) (res : Int32 × s_R) : State → Prop := MQ below (va_Qi (fun r (u : s_R) => r = res.1 ∧ u = res.2) (fun u t => st_B D cy A ((fun (u : s_R) => wc_X1_refuse cy q_t q_t_tape q_t_world u) u) t) A) args s 0 0 A
def B_X1_refuse_0    (w_t : s_R) (v1 : Int32) : Option (Int32 × s_R) := some (0, (w_t.1, w_t.2.1, v1))
set_option maxHeartbeats 4000000 in
set_option maxRecDepth 100000 in
theorem b_X1_refuse_0 {p : Program} {l : Launch} {e : Env} {s : State} {m : MethodId} {args : Array Value} {below : List Frame} {meth : Method} {c : Code} {D : va_G} {cy : Nat → ClassId} {A : Nat → Prop} {q_t : Nat} {q_t_tape : Nat} {q_t_world : Nat} {res : Int32 × s_R}   {w_t : s_R} {v1 : Int32} (C0 : cx_C cX1_refuse ((some .boolean)) 2 RX1 (.code yX1_refuse cX1_refuse 2 ((some .boolean)) :: wg_L) p s m args meth c D cy A)  (h : B_X1_refuse_0 w_t v1 = some res) {H : Heap} {locs : List Loc} {ls : Array Slot} (hP : va_P D vwCl (wc_X1_refuse cy q_t q_t_tape q_t_world w_t) H) (hD : va_D A (wc_X1_refuse cy q_t q_t_tape q_t_world w_t)) (hS : va_S A s.heap H locs) (hl : lv_has ls 2 [(0, .ref q_t), (1, .int v1)]) : W p l e rm_X1_refuse s m args below meth c H locs 0 0 (qq_X1_refuse below args s D cy A q_t q_t_tape q_t_world res) (F0 m 0 ls []) := by
  obtain ⟨hx, hb, hr, hml, hown, hts, hK, hlocks, hA⟩ := id C0
  unfold B_X1_refuse_0 at h
  refine lv_aload_n hx hb dX1_refuse_0 rfl (lv_at hl 0 rfl) ?_
  refine lv_iload_n hx hb dX1_refuse_1 rfl (lv_at hl 1 rfl) ?_
  refine va_put (D := D) (ci := 1) (v := .int v1) (ty := .int) (C := RX1) (T := TX1) (N := 5) hx hb hts (fun w hw => List.mem_cons_of_mem _ (uw_X1 w hw)) tyX1 tyX1_ok nmX1 hown hK.1 hP hD hS 0 rfl rfl 4 (by decide) (hts _ (List.mem_cons_of_mem _ k_151)) (fun _ h9 => h9) rfl (by decide +kernel) rfl rfl (Nat.le_of_ble_eq_true rfl) dX1_refuse_2 (fun H locs hP hD hS => ?_)
  have hP : va_P D vwCl (wc_X1_refuse cy q_t q_t_tape q_t_world (w_t.1, w_t.2.1, v1)) H := hP
  have hD : va_D A (wc_X1_refuse cy q_t q_t_tape q_t_world (w_t.1, w_t.2.1, v1)) := hD
  refine lv_iconst (v := 0) hx hb dX1_refuse_5 (by decide) ?_
  obtain rfl := Option.some.inj h
  exact W.zret (v := 0) hx hb hr (by decide) (fun tt ht hW => ⟨⟨0, (w_t.1, w_t.2.1, v1), rfl, ⟨rfl, rfl⟩, by rw [ht]; exact hP, kk_warm hW hK, hD⟩, hS.F ht⟩) hS.2.2 dX1_refuse_6
def M_X1_refuse    (w_t : s_R) (v1 : Int32) : Option (Int32 × s_R) := B_X1_refuse_0 w_t v1
set_option maxHeartbeats 4000000 in
set_option maxRecDepth 100000 in
theorem c_X1_refuse (l : Launch) (D : va_G) (cy : Nat → ClassId) (sz : Nat) (q_t : Nat) (q_t_tape : Nat) (q_t_world : Nat) (w_t : s_R) (v1 : Int32)  {res : Int32 × s_R} (h : M_X1_refuse w_t v1 = some res) : ct_i l yX1_refuse (.code yX1_refuse cX1_refuse 2 ((some .boolean)) :: wg_L) rm_X1_refuse D cy sz (wc_X1_refuse cy q_t q_t_tape q_t_world w_t) [.ref q_t, .int v1] (fun r (u : s_R) => r = res.1 ∧ u = res.2) (fun (u : s_R) => wc_X1_refuse cy q_t q_t_tape q_t_world u) := by
  refine Met.ofW (cc := cX1_refuse) (maxL := 2) (ret := (some .boolean)) (by decide) rfl ?_
  intro p e s m args below meth c s₁ B hml hv
  obtain ⟨rfl, hsz, hP, hK, hD0⟩ := hv
  subst hsz
  have hD := hD0.self (sz := s.heap.size)
  have hl := lv_entry ([.ref q_t, .int v1]) (n := 2) (Nat.le_of_ble_eq_true rfl)
  rw [lg_entry_eq]
  have C0 : cx_C cX1_refuse ((some .boolean)) 2 RX1 (.code yX1_refuse cX1_refuse 2 ((some .boolean)) :: wg_L) p s m [.ref q_t, .int v1].toArray meth c D cy (va_A (wc_X1_refuse cy q_t q_t_tape q_t_world w_t) s.heap.size) := ⟨B.exec, B.bytes, B.returns, hml, findClass_of_methodNamed B.named, atoms_spec (ws := .code yX1_refuse cX1_refuse 2 ((some .boolean)) :: wg_L) B.pre, hK, B.notSynchronized, fun q h => Or.inr h⟩
  exact b_X1_refuse_0 C0 h hP hD va_S.rf (lv_sub hl [0, 1] rfl)
/-! ### BarrowGrief$Reader.expect(I)Z -/
abbrev wc_X1_expect (cy : Nat → ClassId) (q_t q_t_tape q_t_tape_bytes q_t_world : Nat) (w_t : s_R) (w_t_tape : s_T) : va_W := [(q_t, .inr (1, [.ref q_t_tape, .ref q_t_world, .int w_t.1, .int w_t.2.1, .int w_t.2.2])), (q_t_tape, .inr (4, [.ref q_t_tape_bytes, .int w_t_tape.1, .int w_t_tape.2.1, .int w_t_tape.2.2.1, .int w_t_tape.2.2.2.1, .int w_t_tape.2.2.2.2.1])), (q_t_tape_bytes, .inl (cy 0, 160, .inl w_t_tape.2.2.2.2.2))]
abbrev rm_X1_expect : Room := { frames := 1, cells := 0, slots := 0, locals := 21 }
abbrev qq_X1_expect (below : List Frame) (args : Array Value) (s : State) (D : va_G) (cy : Nat → ClassId) (A : Nat → Prop) (q_t : Nat) (q_t_tape : Nat) (q_t_tape_bytes : Nat) (q_t_world : Nat) (w_t_tape : s_T) (res : Int32 × s_R) : State → Prop := MQ below (va_Qi (fun r (u : s_R) => r = res.1 ∧ u = res.2) (fun u t => st_B D cy A ((fun (u : s_R) => wc_X1_expect cy q_t q_t_tape q_t_tape_bytes q_t_world u w_t_tape) u) t) A) args s 0 0 A
def B_X1_expect_0  (w_t_tape : s_T)  (w_t : s_R) (v1 : Int32) : Option (Int32 × s_R) := if w_t_tape.2.2.1 = 4 then ((M_X1_refuse w_t 1).bind (fun u13 => gq_b u13.1 (some (u13.1, u13.2)))) else (if w_t_tape.2.2.1 = v1 then (some (1, w_t)) else ((M_X1_refuse w_t 2).bind (fun u30 => if u30.1 = 0 then (some (0, u30.2)) else (some (1, u30.2)))))
set_option maxHeartbeats 4000000 in
set_option maxRecDepth 100000 in
theorem b_X1_expect_0 {p : Program} {l : Launch} {e : Env} {s : State} {m : MethodId} {args : Array Value} {below : List Frame} {meth : Method} {c : Code} {D : va_G} {cy : Nat → ClassId} {A : Nat → Prop} {q_t : Nat} {q_t_tape : Nat} {q_t_tape_bytes : Nat} {q_t_world : Nat} {w_t_tape : s_T} {res : Int32 × s_R}   {w_t : s_R} {v1 : Int32} (C0 : cx_C cX1_expect ((some .boolean)) 2 RX1 (.code yX1_expect cX1_expect 2 ((some .boolean)) :: wg_L) p s m args meth c D cy A)  (h : B_X1_expect_0 w_t_tape w_t v1 = some res) {H : Heap} {locs : List Loc} {ls : Array Slot} (hP : va_P D vwCl (wc_X1_expect cy q_t q_t_tape q_t_tape_bytes q_t_world w_t w_t_tape) H) (hD : va_D A (wc_X1_expect cy q_t q_t_tape q_t_tape_bytes q_t_world w_t w_t_tape)) (hS : va_S A s.heap H locs) (hl : lv_has ls 2 [(0, .ref q_t), (1, .int v1)]) : W p l e rm_X1_expect s m args below meth c H locs 0 0 (qq_X1_expect below args s D cy A q_t q_t_tape q_t_tape_bytes q_t_world w_t_tape res) (F0 m 0 ls []) := by
  obtain ⟨hx, hb, hr, hml, hown, hts, hK, hlocks, hA⟩ := id C0
  unfold B_X1_expect_0 at h
  refine lv_aload_n hx hb dX1_expect_0 rfl (lv_at hl 0 rfl) ?_
  refine va_get (D := D) (ci := 1) (v := .ref q_t_tape) (C := RX1) (T := TX1) (N := 5) hx hb hts (fun w hw => List.mem_cons_of_mem _ (uw_X1 w hw)) hown hK.1 hP 0 rfl rfl 0 (by decide) (hts _ (List.mem_cons_of_mem _ k_147)) (fun _ h9 => h9) rfl dX1_expect_1 ?_
  refine va_get (D := D) (ci := 4) (v := .int w_t_tape.2.2.1) (C := RX4) (T := TX4) (N := 6) hx hb hts (fun w hw => List.mem_cons_of_mem _ (uw_X4 w hw)) hown hK.1 hP 1 rfl rfl 3 (by decide) (hts _ (List.mem_cons_of_mem _ k_121)) (fun _ h9 => h9) rfl dX1_expect_4 ?_
  refine lv_iconst (v := 4) hx hb dX1_expect_7 (by decide) ?_
  refine lv_icmp_ne (tgt := 17) hx hb dX1_expect_8 (by decide) (fun c8 => ?_) (fun c8 => ?_)
  · replace h := it_n c8 h
    refine lv_aload_n hx hb dX1_expect_17 rfl (lv_at hl 0 rfl) ?_
    refine va_get (D := D) (ci := 1) (v := .ref q_t_tape) (C := RX1) (T := TX1) (N := 5) hx hb hts (fun w hw => List.mem_cons_of_mem _ (uw_X1 w hw)) hown hK.1 hP 0 rfl rfl 0 (by decide) (hts _ (List.mem_cons_of_mem _ k_147)) (fun _ h9 => h9) rfl dX1_expect_18 ?_
    refine va_get (D := D) (ci := 4) (v := .int w_t_tape.2.2.1) (C := RX4) (T := TX4) (N := 6) hx hb hts (fun w hw => List.mem_cons_of_mem _ (uw_X4 w hw)) hown hK.1 hP 1 rfl rfl 3 (by decide) (hts _ (List.mem_cons_of_mem _ k_121)) (fun _ h9 => h9) rfl dX1_expect_21 ?_
    refine lv_iload_n hx hb dX1_expect_24 rfl (lv_at hl 1 rfl) ?_
    refine lv_icmp_eq (tgt := 36) hx hb dX1_expect_25 (by decide) (fun c25 => ?_) (fun c25 => ?_)
    · replace h := it_p c25 h
      refine lv_iconst (v := 1) hx hb dX1_expect_36 (by decide) ?_
      refine lv_goto (tgt := 41) hx hb dX1_expect_37 (by decide) ?_
      obtain rfl := Option.some.inj h
      exact W.zret (v := 1) hx hb hr (by decide) (fun tt ht hW => ⟨⟨1, w_t, rfl, ⟨rfl, rfl⟩, by rw [ht]; exact hP, kk_warm hW hK, hD⟩, hS.F ht⟩) hS.2.2 dX1_expect_41
    · replace h := it_n c25 h
      refine lv_aload_n hx hb dX1_expect_28 rfl (lv_at hl 0 rfl) ?_
      refine lv_iconst (v := 2) hx hb dX1_expect_29 (by decide) ?_
      obtain ⟨u30, hc30, h⟩ := bd_d h
      have hPc := hP.sub (ws' := wc_X1_refuse cy q_t q_t_tape q_t_world w_t) [0] rfl
      have hDc := hD.sub (ws' := wc_X1_refuse cy q_t q_t_tape q_t_world w_t) [0] (by decide) rfl
      refine cl_i (fun (u : s_R) => wc_X1_expect cy q_t q_t_tape q_t_tape_bytes q_t_world u w_t_tape) (va_runV (As := [.int 2]) (rest := []) (C := RX1) ⟨hx, hb, hml, hown, hts⟩ (c_X1_refuse l D cy H.size q_t q_t_tape q_t_world w_t 2 hc30) ⟨callB_of 1 hts (wg_in k_282) rfl rfl rfl (hts _ (List.mem_cons_of_mem _ k_5)) (hts _ (List.mem_cons_of_mem _ k_279)) (by decide +kernel) ⟨by decide, by decide⟩, (hts _ (List.mem_cons_of_mem _ k_281)), (hts _ (List.mem_cons_of_mem _ ks_4))⟩ ⟨st_blind, va_recv hK.1 hPc (ci := 1) (q0 := 0) rfl rfl, fun U hU hW => st_pre hK hPc hDc hU hW⟩ rfl rfl hl.1 rfl (lv_room (Nat.le_of_ble_eq_true rfl)) dX1_expect_30 ⟨by decide, by decide⟩) hP hD hS hA [0] [1, 2] [2, 0, 1] rfl rfl (by decide) (by decide) (by decide) (fun _ => rfl) (fun r u H locs hw hP hD hS => ?_)
      obtain ⟨rfl, rfl⟩ := hw
      have hP : va_P D vwCl (wc_X1_expect cy q_t q_t_tape q_t_tape_bytes q_t_world u30.2 w_t_tape) H := hP
      have hD : va_D A (wc_X1_expect cy q_t q_t_tape q_t_tape_bytes q_t_world u30.2 w_t_tape) := hD
      refine lv_if_eq (tgt := 40) hx hb dX1_expect_33 (by decide) (fun c33 => ?_) (fun c33 => ?_)
      · replace h := it_p c33 h
        refine lv_iconst (v := 0) hx hb dX1_expect_40 (by decide) ?_
        obtain rfl := Option.some.inj h
        exact W.zret (v := 0) hx hb hr (by decide) (fun tt ht hW => ⟨⟨0, u30.2, rfl, ⟨rfl, rfl⟩, by rw [ht]; exact hP, kk_warm hW hK, hD⟩, hS.F ht⟩) hS.2.2 dX1_expect_41
      · replace h := it_n c33 h
        refine lv_iconst (v := 1) hx hb dX1_expect_36 (by decide) ?_
        refine lv_goto (tgt := 41) hx hb dX1_expect_37 (by decide) ?_
        obtain rfl := Option.some.inj h
        exact W.zret (v := 1) hx hb hr (by decide) (fun tt ht hW => ⟨⟨1, u30.2, rfl, ⟨rfl, rfl⟩, by rw [ht]; exact hP, kk_warm hW hK, hD⟩, hS.F ht⟩) hS.2.2 dX1_expect_41
  · replace h := it_p c8 h
    refine lv_aload_n hx hb dX1_expect_11 rfl (lv_at hl 0 rfl) ?_
    refine lv_iconst (v := 1) hx hb dX1_expect_12 (by decide) ?_
    obtain ⟨u13, hc13, h⟩ := bd_d h
    have hPc := hP.sub (ws' := wc_X1_refuse cy q_t q_t_tape q_t_world w_t) [0] rfl
    have hDc := hD.sub (ws' := wc_X1_refuse cy q_t q_t_tape q_t_world w_t) [0] (by decide) rfl
    refine cl_i (fun (u : s_R) => wc_X1_expect cy q_t q_t_tape q_t_tape_bytes q_t_world u w_t_tape) (va_runV (As := [.int 1]) (rest := []) (C := RX1) ⟨hx, hb, hml, hown, hts⟩ (c_X1_refuse l D cy H.size q_t q_t_tape q_t_world w_t 1 hc13) ⟨callB_of 1 hts (wg_in k_282) rfl rfl rfl (hts _ (List.mem_cons_of_mem _ k_5)) (hts _ (List.mem_cons_of_mem _ k_279)) (by decide +kernel) ⟨by decide, by decide⟩, (hts _ (List.mem_cons_of_mem _ k_281)), (hts _ (List.mem_cons_of_mem _ ks_4))⟩ ⟨st_blind, va_recv hK.1 hPc (ci := 1) (q0 := 0) rfl rfl, fun U hU hW => st_pre hK hPc hDc hU hW⟩ rfl rfl hl.1 rfl (lv_room (Nat.le_of_ble_eq_true rfl)) dX1_expect_13 ⟨by decide, by decide⟩) hP hD hS hA [0] [1, 2] [2, 0, 1] rfl rfl (by decide) (by decide) (by decide) (fun _ => rfl) (fun r u H locs hw hP hD hS => ?_)
    obtain ⟨rfl, rfl⟩ := hw
    have hP : va_P D vwCl (wc_X1_expect cy q_t q_t_tape q_t_tape_bytes q_t_world u13.2 w_t_tape) H := hP
    have hD : va_D A (wc_X1_expect cy q_t q_t_tape q_t_tape_bytes q_t_world u13.2 w_t_tape) := hD
    obtain ⟨hz1, h⟩ := gq_d h
    obtain rfl := Option.some.inj h
    exact W.zret (v := u13.1) hx hb hr hz1.1 (fun tt ht hW => ⟨⟨u13.1, u13.2, rfl, ⟨rfl, rfl⟩, by rw [ht]; exact hP, kk_warm hW hK, hD⟩, hS.F ht⟩) hS.2.2 dX1_expect_16
def M_X1_expect  (w_t_tape : s_T)  (w_t : s_R) (v1 : Int32) : Option (Int32 × s_R) := B_X1_expect_0 w_t_tape w_t v1
set_option maxHeartbeats 4000000 in
set_option maxRecDepth 100000 in
theorem c_X1_expect (l : Launch) (D : va_G) (cy : Nat → ClassId) (sz : Nat) (q_t : Nat) (q_t_tape : Nat) (q_t_tape_bytes : Nat) (q_t_world : Nat) (w_t : s_R) (w_t_tape : s_T) (v1 : Int32)  {res : Int32 × s_R} (h : M_X1_expect w_t_tape w_t v1 = some res) : ct_i l yX1_expect (.code yX1_expect cX1_expect 2 ((some .boolean)) :: wg_L) rm_X1_expect D cy sz (wc_X1_expect cy q_t q_t_tape q_t_tape_bytes q_t_world w_t w_t_tape) [.ref q_t, .int v1] (fun r (u : s_R) => r = res.1 ∧ u = res.2) (fun (u : s_R) => wc_X1_expect cy q_t q_t_tape q_t_tape_bytes q_t_world u w_t_tape) := by
  refine Met.ofW (cc := cX1_expect) (maxL := 2) (ret := (some .boolean)) (by decide) rfl ?_
  intro p e s m args below meth c s₁ B hml hv
  obtain ⟨rfl, hsz, hP, hK, hD0⟩ := hv
  subst hsz
  have hD := hD0.self (sz := s.heap.size)
  have hl := lv_entry ([.ref q_t, .int v1]) (n := 2) (Nat.le_of_ble_eq_true rfl)
  rw [lg_entry_eq]
  have C0 : cx_C cX1_expect ((some .boolean)) 2 RX1 (.code yX1_expect cX1_expect 2 ((some .boolean)) :: wg_L) p s m [.ref q_t, .int v1].toArray meth c D cy (va_A (wc_X1_expect cy q_t q_t_tape q_t_tape_bytes q_t_world w_t w_t_tape) s.heap.size) := ⟨B.exec, B.bytes, B.returns, hml, findClass_of_methodNamed B.named, atoms_spec (ws := .code yX1_expect cX1_expect 2 ((some .boolean)) :: wg_L) B.pre, hK, B.notSynchronized, fun q h => Or.inr h⟩
  exact b_X1_expect_0 C0 h hP hD va_S.rf (lv_sub hl [0, 1] rfl)
/-! ### BarrowGrief$Reader.readStop()Z -/
abbrev wc_X1_readStop (cy : Nat → ClassId) (q_t q_t_tape q_t_tape_bytes q_t_world : Nat) (w_t : s_R) (w_t_tape : s_T) : va_W := [(q_t, .inr (1, [.ref q_t_tape, .ref q_t_world, .int w_t.1, .int w_t.2.1, .int w_t.2.2])), (q_t_tape, .inr (4, [.ref q_t_tape_bytes, .int w_t_tape.1, .int w_t_tape.2.1, .int w_t_tape.2.2.1, .int w_t_tape.2.2.2.1, .int w_t_tape.2.2.2.2.1])), (q_t_tape_bytes, .inl (cy 0, 160, .inl w_t_tape.2.2.2.2.2))]
abbrev rm_X1_readStop : Room := { frames := 2, cells := 0, slots := 0, locals := 42 }
abbrev qq_X1_readStop (below : List Frame) (args : Array Value) (s : State) (D : va_G) (cy : Nat → ClassId) (A : Nat → Prop) (q_t : Nat) (q_t_tape : Nat) (q_t_tape_bytes : Nat) (q_t_world : Nat) (res : Int32 × s_R × s_T) : State → Prop := MQ below (va_Qi (fun r (u : s_R × s_T) => r = res.1 ∧ u = res.2) (fun u t => st_B D cy A ((fun (u : s_R × s_T) => wc_X1_readStop cy q_t q_t_tape q_t_tape_bytes q_t_world u.1 u.2) u) t) A) args s 0 0 A
def B_X1_readStop_0   (f : Nat) (w_t : s_R) (w_t_tape : s_T)  : Option (Int32 × s_R × s_T) := (M_X4_advance f w_t_tape).bind (fun u4 => (M_X1_expect u4 w_t 3).bind (fun u9 => gq_b u9.1 (some (u9.1, u9.2, u4))))
set_option maxHeartbeats 4000000 in
set_option maxRecDepth 100000 in
theorem b_X1_readStop_0 {p : Program} {l : Launch} {e : Env} {s : State} {m : MethodId} {args : Array Value} {below : List Frame} {meth : Method} {c : Code} {D : va_G} {cy : Nat → ClassId} {A : Nat → Prop} {q_t : Nat} {q_t_tape : Nat} {q_t_tape_bytes : Nat} {q_t_world : Nat} {res : Int32 × s_R × s_T}  {f : Nat} {w_t : s_R} {w_t_tape : s_T}  (C0 : cx_C cX1_readStop ((some .boolean)) 1 RX1 (.code yX1_readStop cX1_readStop 1 ((some .boolean)) :: wg_L) p s m args meth c D cy A)  (h : B_X1_readStop_0 f w_t w_t_tape = some res) {H : Heap} {locs : List Loc} {ls : Array Slot} (hP : va_P D vwCl (wc_X1_readStop cy q_t q_t_tape q_t_tape_bytes q_t_world w_t w_t_tape) H) (hD : va_D A (wc_X1_readStop cy q_t q_t_tape q_t_tape_bytes q_t_world w_t w_t_tape)) (hS : va_S A s.heap H locs) (hl : lv_has ls 1 [(0, .ref q_t)]) : W p l e rm_X1_readStop s m args below meth c H locs 0 0 (qq_X1_readStop below args s D cy A q_t q_t_tape q_t_tape_bytes q_t_world res) (F0 m 0 ls []) := by
  obtain ⟨hx, hb, hr, hml, hown, hts, hK, hlocks, hA⟩ := id C0
  unfold B_X1_readStop_0 at h
  refine lv_aload_n hx hb dX1_readStop_0 rfl (lv_at hl 0 rfl) ?_
  refine va_get (D := D) (ci := 1) (v := .ref q_t_tape) (C := RX1) (T := TX1) (N := 5) hx hb hts (fun w hw => List.mem_cons_of_mem _ (uw_X1 w hw)) hown hK.1 hP 0 rfl rfl 0 (by decide) (hts _ (List.mem_cons_of_mem _ k_147)) (fun _ h9 => h9) rfl dX1_readStop_1 ?_
  obtain ⟨u4, hc4, h⟩ := bd_d h
  have hPc := hP.sub (ws' := wc_X4_advance cy q_t_tape q_t_tape_bytes w_t_tape) [1, 2] rfl
  have hDc := hD.sub (ws' := wc_X4_advance cy q_t_tape q_t_tape_bytes w_t_tape) [1, 2] (by decide) rfl
  refine cl_v (fun (u : s_T) => wc_X1_readStop cy q_t q_t_tape q_t_tape_bytes q_t_world w_t u) (va_runV (As := []) (rest := []) (C := RX4) ⟨hx, hb, hml, hown, hts⟩ (c_X4_advance l D cy H.size q_t_tape q_t_tape_bytes w_t_tape hc4) ⟨callB_of 0 hts (wg_in k_262) rfl rfl rfl (hts _ (List.mem_cons_of_mem _ k_4)) (hts _ (List.mem_cons_of_mem _ k_259)) (by decide +kernel) ⟨by decide, by decide⟩, (hts _ (List.mem_cons_of_mem _ k_260)), (hts _ (List.mem_cons_of_mem _ k_261))⟩ ⟨st_blind, va_recv hK.1 hPc (ci := 4) (q0 := 0) rfl rfl, fun U hU hW => st_pre hK hPc hDc hU hW⟩ rfl rfl hl.1 rfl (lv_room (Nat.le_of_ble_eq_true rfl)) dX1_readStop_4 ⟨by decide, by decide⟩) hP hD hS hA [1, 2] [0] [0, 1, 2] rfl rfl (by decide) (by decide) (by decide) (fun _ => rfl) (fun u H locs hw hP hD hS => ?_)
  obtain rfl := hw.symm
  have hP : va_P D vwCl (wc_X1_readStop cy q_t q_t_tape q_t_tape_bytes q_t_world w_t u4) H := hP
  have hD : va_D A (wc_X1_readStop cy q_t q_t_tape q_t_tape_bytes q_t_world w_t u4) := hD
  refine lv_aload_n hx hb dX1_readStop_7 rfl (lv_at hl 0 rfl) ?_
  refine lv_iconst (v := 3) hx hb dX1_readStop_8 (by decide) ?_
  obtain ⟨u9, hc9, h⟩ := bd_d h
  have hPc := hP.sub (ws' := wc_X1_expect cy q_t q_t_tape q_t_tape_bytes q_t_world w_t u4) [0, 1, 2] rfl
  have hDc := hD.sub (ws' := wc_X1_expect cy q_t q_t_tape q_t_tape_bytes q_t_world w_t u4) [0, 1, 2] (by decide) rfl
  refine cl_i (fun (u : s_R) => wc_X1_readStop cy q_t q_t_tape q_t_tape_bytes q_t_world u u4) (va_runV (As := [.int 3]) (rest := []) (C := RX1) ⟨hx, hb, hml, hown, hts⟩ (c_X1_expect l D cy H.size q_t q_t_tape q_t_tape_bytes q_t_world w_t u4 3 hc9) ⟨callB_of 1 hts (wg_in k_278) rfl rfl rfl (hts _ (List.mem_cons_of_mem _ k_5)) (hts _ (List.mem_cons_of_mem _ k_275)) (by decide +kernel) ⟨by decide, by decide⟩, (hts _ (List.mem_cons_of_mem _ k_277)), (hts _ (List.mem_cons_of_mem _ ks_3))⟩ ⟨st_blind, va_recv hK.1 hPc (ci := 1) (q0 := 0) rfl rfl, fun U hU hW => st_pre hK hPc hDc hU hW⟩ rfl rfl hl.1 rfl (lv_room (Nat.le_of_ble_eq_true rfl)) dX1_readStop_9 ⟨by decide, by decide⟩) hP hD hS hA [0, 1, 2] [] [0, 1, 2] rfl rfl (by decide) (by decide) (by decide) (fun _ => rfl) (fun r u H locs hw hP hD hS => ?_)
  obtain ⟨rfl, rfl⟩ := hw
  have hP : va_P D vwCl (wc_X1_readStop cy q_t q_t_tape q_t_tape_bytes q_t_world u9.2 u4) H := hP
  have hD : va_D A (wc_X1_readStop cy q_t q_t_tape q_t_tape_bytes q_t_world u9.2 u4) := hD
  obtain ⟨hz1, h⟩ := gq_d h
  obtain rfl := Option.some.inj h
  exact W.zret (v := u9.1) hx hb hr hz1.1 (fun tt ht hW => ⟨⟨u9.1, (u9.2, u4), rfl, ⟨rfl, rfl⟩, by rw [ht]; exact hP, kk_warm hW hK, hD⟩, hS.F ht⟩) hS.2.2 dX1_readStop_12
def M_X1_readStop   (f : Nat) (w_t : s_R) (w_t_tape : s_T)  : Option (Int32 × s_R × s_T) := B_X1_readStop_0 f w_t w_t_tape
set_option maxHeartbeats 4000000 in
set_option maxRecDepth 100000 in
theorem c_X1_readStop (l : Launch) (D : va_G) (cy : Nat → ClassId) (sz : Nat) (q_t : Nat) (q_t_tape : Nat) (q_t_tape_bytes : Nat) (q_t_world : Nat) (w_t : s_R) (w_t_tape : s_T)  {f : Nat} {res : Int32 × s_R × s_T} (h : M_X1_readStop f w_t w_t_tape = some res) : ct_i l yX1_readStop (.code yX1_readStop cX1_readStop 1 ((some .boolean)) :: wg_L) rm_X1_readStop D cy sz (wc_X1_readStop cy q_t q_t_tape q_t_tape_bytes q_t_world w_t w_t_tape) [.ref q_t] (fun r (u : s_R × s_T) => r = res.1 ∧ u = res.2) (fun (u : s_R × s_T) => wc_X1_readStop cy q_t q_t_tape q_t_tape_bytes q_t_world u.1 u.2) := by
  refine Met.ofW (cc := cX1_readStop) (maxL := 1) (ret := (some .boolean)) (by decide) rfl ?_
  intro p e s m args below meth c s₁ B hml hv
  obtain ⟨rfl, hsz, hP, hK, hD0⟩ := hv
  subst hsz
  have hD := hD0.self (sz := s.heap.size)
  have hl := lv_entry ([.ref q_t]) (n := 1) (Nat.le_of_ble_eq_true rfl)
  rw [lg_entry_eq]
  have C0 : cx_C cX1_readStop ((some .boolean)) 1 RX1 (.code yX1_readStop cX1_readStop 1 ((some .boolean)) :: wg_L) p s m [.ref q_t].toArray meth c D cy (va_A (wc_X1_readStop cy q_t q_t_tape q_t_tape_bytes q_t_world w_t w_t_tape) s.heap.size) := ⟨B.exec, B.bytes, B.returns, hml, findClass_of_methodNamed B.named, atoms_spec (ws := .code yX1_readStop cX1_readStop 1 ((some .boolean)) :: wg_L) B.pre, hK, B.notSynchronized, fun q h => Or.inr h⟩
  exact b_X1_readStop_0 C0 h hP hD va_S.rf (lv_sub hl [0] rfl)
/-! ### BarrowGrief$Reader.readNumber(I)Z -/
abbrev wc_X1_readNumber (cy : Nat → ClassId) (q_t q_t_tape q_t_tape_bytes q_t_world : Nat) (w_t : s_R) (w_t_tape : s_T) : va_W := [(q_t, .inr (1, [.ref q_t_tape, .ref q_t_world, .int w_t.1, .int w_t.2.1, .int w_t.2.2])), (q_t_tape, .inr (4, [.ref q_t_tape_bytes, .int w_t_tape.1, .int w_t_tape.2.1, .int w_t_tape.2.2.1, .int w_t_tape.2.2.2.1, .int w_t_tape.2.2.2.2.1])), (q_t_tape_bytes, .inl (cy 0, 160, .inl w_t_tape.2.2.2.2.2))]
abbrev rm_X1_readNumber : Room := { frames := 2, cells := 0, slots := 0, locals := 42 }
abbrev qq_X1_readNumber (below : List Frame) (args : Array Value) (s : State) (D : va_G) (cy : Nat → ClassId) (A : Nat → Prop) (q_t : Nat) (q_t_tape : Nat) (q_t_tape_bytes : Nat) (q_t_world : Nat) (res : Int32 × s_R × s_T) : State → Prop := MQ below (va_Qi (fun r (u : s_R × s_T) => r = res.1 ∧ u = res.2) (fun u t => st_B D cy A ((fun (u : s_R × s_T) => wc_X1_readNumber cy q_t q_t_tape q_t_tape_bytes q_t_world u.1 u.2) u) t) A) args s 0 0 A
def B_X1_readNumber_0   (f : Nat) (w_t : s_R) (w_t_tape : s_T) (v1 : Int32) : Option (Int32 × s_R × s_T) := (M_X4_advance f w_t_tape).bind (fun u4 => (M_X1_expect u4 w_t 2).bind (fun u9 => if u9.1 = 0 then (some (0, u9.2, u4)) else (if v1 ≤ u4.2.2.2.2.1 then (some (1, u9.2, u4)) else ((M_X1_refuse u9.2 3).bind (fun u30 => if u30.1 = 0 then (some (0, u30.2, u4)) else (some (1, u30.2, u4)))))))
set_option maxHeartbeats 4000000 in
set_option maxRecDepth 100000 in
theorem b_X1_readNumber_0 {p : Program} {l : Launch} {e : Env} {s : State} {m : MethodId} {args : Array Value} {below : List Frame} {meth : Method} {c : Code} {D : va_G} {cy : Nat → ClassId} {A : Nat → Prop} {q_t : Nat} {q_t_tape : Nat} {q_t_tape_bytes : Nat} {q_t_world : Nat} {res : Int32 × s_R × s_T}  {f : Nat} {w_t : s_R} {w_t_tape : s_T} {v1 : Int32} (C0 : cx_C cX1_readNumber ((some .boolean)) 2 RX1 (.code yX1_readNumber cX1_readNumber 2 ((some .boolean)) :: wg_L) p s m args meth c D cy A)  (h : B_X1_readNumber_0 f w_t w_t_tape v1 = some res) {H : Heap} {locs : List Loc} {ls : Array Slot} (hP : va_P D vwCl (wc_X1_readNumber cy q_t q_t_tape q_t_tape_bytes q_t_world w_t w_t_tape) H) (hD : va_D A (wc_X1_readNumber cy q_t q_t_tape q_t_tape_bytes q_t_world w_t w_t_tape)) (hS : va_S A s.heap H locs) (hl : lv_has ls 2 [(0, .ref q_t), (1, .int v1)]) : W p l e rm_X1_readNumber s m args below meth c H locs 0 0 (qq_X1_readNumber below args s D cy A q_t q_t_tape q_t_tape_bytes q_t_world res) (F0 m 0 ls []) := by
  obtain ⟨hx, hb, hr, hml, hown, hts, hK, hlocks, hA⟩ := id C0
  unfold B_X1_readNumber_0 at h
  refine lv_aload_n hx hb dX1_readNumber_0 rfl (lv_at hl 0 rfl) ?_
  refine va_get (D := D) (ci := 1) (v := .ref q_t_tape) (C := RX1) (T := TX1) (N := 5) hx hb hts (fun w hw => List.mem_cons_of_mem _ (uw_X1 w hw)) hown hK.1 hP 0 rfl rfl 0 (by decide) (hts _ (List.mem_cons_of_mem _ k_147)) (fun _ h9 => h9) rfl dX1_readNumber_1 ?_
  obtain ⟨u4, hc4, h⟩ := bd_d h
  have hPc := hP.sub (ws' := wc_X4_advance cy q_t_tape q_t_tape_bytes w_t_tape) [1, 2] rfl
  have hDc := hD.sub (ws' := wc_X4_advance cy q_t_tape q_t_tape_bytes w_t_tape) [1, 2] (by decide) rfl
  refine cl_v (fun (u : s_T) => wc_X1_readNumber cy q_t q_t_tape q_t_tape_bytes q_t_world w_t u) (va_runV (As := []) (rest := []) (C := RX4) ⟨hx, hb, hml, hown, hts⟩ (c_X4_advance l D cy H.size q_t_tape q_t_tape_bytes w_t_tape hc4) ⟨callB_of 0 hts (wg_in k_262) rfl rfl rfl (hts _ (List.mem_cons_of_mem _ k_4)) (hts _ (List.mem_cons_of_mem _ k_259)) (by decide +kernel) ⟨by decide, by decide⟩, (hts _ (List.mem_cons_of_mem _ k_260)), (hts _ (List.mem_cons_of_mem _ k_261))⟩ ⟨st_blind, va_recv hK.1 hPc (ci := 4) (q0 := 0) rfl rfl, fun U hU hW => st_pre hK hPc hDc hU hW⟩ rfl rfl hl.1 rfl (lv_room (Nat.le_of_ble_eq_true rfl)) dX1_readNumber_4 ⟨by decide, by decide⟩) hP hD hS hA [1, 2] [0] [0, 1, 2] rfl rfl (by decide) (by decide) (by decide) (fun _ => rfl) (fun u H locs hw hP hD hS => ?_)
  obtain rfl := hw.symm
  have hP : va_P D vwCl (wc_X1_readNumber cy q_t q_t_tape q_t_tape_bytes q_t_world w_t u4) H := hP
  have hD : va_D A (wc_X1_readNumber cy q_t q_t_tape q_t_tape_bytes q_t_world w_t u4) := hD
  refine lv_aload_n hx hb dX1_readNumber_7 rfl (lv_at hl 0 rfl) ?_
  refine lv_iconst (v := 2) hx hb dX1_readNumber_8 (by decide) ?_
  obtain ⟨u9, hc9, h⟩ := bd_d h
  have hPc := hP.sub (ws' := wc_X1_expect cy q_t q_t_tape q_t_tape_bytes q_t_world w_t u4) [0, 1, 2] rfl
  have hDc := hD.sub (ws' := wc_X1_expect cy q_t q_t_tape q_t_tape_bytes q_t_world w_t u4) [0, 1, 2] (by decide) rfl
  refine cl_i (fun (u : s_R) => wc_X1_readNumber cy q_t q_t_tape q_t_tape_bytes q_t_world u u4) (va_runV (As := [.int 2]) (rest := []) (C := RX1) ⟨hx, hb, hml, hown, hts⟩ (c_X1_expect l D cy H.size q_t q_t_tape q_t_tape_bytes q_t_world w_t u4 2 hc9) ⟨callB_of 1 hts (wg_in k_278) rfl rfl rfl (hts _ (List.mem_cons_of_mem _ k_5)) (hts _ (List.mem_cons_of_mem _ k_275)) (by decide +kernel) ⟨by decide, by decide⟩, (hts _ (List.mem_cons_of_mem _ k_277)), (hts _ (List.mem_cons_of_mem _ ks_3))⟩ ⟨st_blind, va_recv hK.1 hPc (ci := 1) (q0 := 0) rfl rfl, fun U hU hW => st_pre hK hPc hDc hU hW⟩ rfl rfl hl.1 rfl (lv_room (Nat.le_of_ble_eq_true rfl)) dX1_readNumber_9 ⟨by decide, by decide⟩) hP hD hS hA [0, 1, 2] [] [0, 1, 2] rfl rfl (by decide) (by decide) (by decide) (fun _ => rfl) (fun r u H locs hw hP hD hS => ?_)
  obtain ⟨rfl, rfl⟩ := hw
  have hP : va_P D vwCl (wc_X1_readNumber cy q_t q_t_tape q_t_tape_bytes q_t_world u9.2 u4) H := hP
  have hD : va_D A (wc_X1_readNumber cy q_t q_t_tape q_t_tape_bytes q_t_world u9.2 u4) := hD
  refine lv_if_ne (tgt := 17) hx hb dX1_readNumber_12 (by decide) (fun c12 => ?_) (fun c12 => ?_)
  · replace h := it_n c12 h
    refine lv_aload_n hx hb dX1_readNumber_17 rfl (lv_at hl 0 rfl) ?_
    refine va_get (D := D) (ci := 1) (v := .ref q_t_tape) (C := RX1) (T := TX1) (N := 5) hx hb hts (fun w hw => List.mem_cons_of_mem _ (uw_X1 w hw)) hown hK.1 hP 0 rfl rfl 0 (by decide) (hts _ (List.mem_cons_of_mem _ k_147)) (fun _ h9 => h9) rfl dX1_readNumber_18 ?_
    refine va_get (D := D) (ci := 4) (v := .int u4.2.2.2.2.1) (C := RX4) (T := TX4) (N := 6) hx hb hts (fun w hw => List.mem_cons_of_mem _ (uw_X4 w hw)) hown hK.1 hP 1 rfl rfl 5 (by decide) (hts _ (List.mem_cons_of_mem _ k_126)) (fun _ h9 => h9) rfl dX1_readNumber_21 ?_
    refine lv_iload_n hx hb dX1_readNumber_24 rfl (lv_at hl 1 rfl) ?_
    refine lv_icmp_ge (tgt := 36) hx hb dX1_readNumber_25 (by decide) (fun c25 => ?_) (fun c25 => ?_)
    · replace h := it_p c25 h
      refine lv_iconst (v := 1) hx hb dX1_readNumber_36 (by decide) ?_
      refine lv_goto (tgt := 41) hx hb dX1_readNumber_37 (by decide) ?_
      obtain rfl := Option.some.inj h
      exact W.zret (v := 1) hx hb hr (by decide) (fun tt ht hW => ⟨⟨1, (u9.2, u4), rfl, ⟨rfl, rfl⟩, by rw [ht]; exact hP, kk_warm hW hK, hD⟩, hS.F ht⟩) hS.2.2 dX1_readNumber_41
    · replace h := it_n c25 h
      refine lv_aload_n hx hb dX1_readNumber_28 rfl (lv_at hl 0 rfl) ?_
      refine lv_iconst (v := 3) hx hb dX1_readNumber_29 (by decide) ?_
      obtain ⟨u30, hc30, h⟩ := bd_d h
      have hPc := hP.sub (ws' := wc_X1_refuse cy q_t q_t_tape q_t_world u9.2) [0] rfl
      have hDc := hD.sub (ws' := wc_X1_refuse cy q_t q_t_tape q_t_world u9.2) [0] (by decide) rfl
      refine cl_i (fun (u : s_R) => wc_X1_readNumber cy q_t q_t_tape q_t_tape_bytes q_t_world u u4) (va_runV (As := [.int 3]) (rest := []) (C := RX1) ⟨hx, hb, hml, hown, hts⟩ (c_X1_refuse l D cy H.size q_t q_t_tape q_t_world u9.2 3 hc30) ⟨callB_of 1 hts (wg_in k_282) rfl rfl rfl (hts _ (List.mem_cons_of_mem _ k_5)) (hts _ (List.mem_cons_of_mem _ k_279)) (by decide +kernel) ⟨by decide, by decide⟩, (hts _ (List.mem_cons_of_mem _ k_281)), (hts _ (List.mem_cons_of_mem _ ks_4))⟩ ⟨st_blind, va_recv hK.1 hPc (ci := 1) (q0 := 0) rfl rfl, fun U hU hW => st_pre hK hPc hDc hU hW⟩ rfl rfl hl.1 rfl (lv_room (Nat.le_of_ble_eq_true rfl)) dX1_readNumber_30 ⟨by decide, by decide⟩) hP hD hS hA [0] [1, 2] [2, 0, 1] rfl rfl (by decide) (by decide) (by decide) (fun _ => rfl) (fun r u H locs hw hP hD hS => ?_)
      obtain ⟨rfl, rfl⟩ := hw
      have hP : va_P D vwCl (wc_X1_readNumber cy q_t q_t_tape q_t_tape_bytes q_t_world u30.2 u4) H := hP
      have hD : va_D A (wc_X1_readNumber cy q_t q_t_tape q_t_tape_bytes q_t_world u30.2 u4) := hD
      refine lv_if_eq (tgt := 40) hx hb dX1_readNumber_33 (by decide) (fun c33 => ?_) (fun c33 => ?_)
      · replace h := it_p c33 h
        refine lv_iconst (v := 0) hx hb dX1_readNumber_40 (by decide) ?_
        obtain rfl := Option.some.inj h
        exact W.zret (v := 0) hx hb hr (by decide) (fun tt ht hW => ⟨⟨0, (u30.2, u4), rfl, ⟨rfl, rfl⟩, by rw [ht]; exact hP, kk_warm hW hK, hD⟩, hS.F ht⟩) hS.2.2 dX1_readNumber_41
      · replace h := it_n c33 h
        refine lv_iconst (v := 1) hx hb dX1_readNumber_36 (by decide) ?_
        refine lv_goto (tgt := 41) hx hb dX1_readNumber_37 (by decide) ?_
        obtain rfl := Option.some.inj h
        exact W.zret (v := 1) hx hb hr (by decide) (fun tt ht hW => ⟨⟨1, (u30.2, u4), rfl, ⟨rfl, rfl⟩, by rw [ht]; exact hP, kk_warm hW hK, hD⟩, hS.F ht⟩) hS.2.2 dX1_readNumber_41
  · replace h := it_p c12 h
    refine lv_iconst (v := 0) hx hb dX1_readNumber_15 (by decide) ?_
    obtain rfl := Option.some.inj h
    exact W.zret (v := 0) hx hb hr (by decide) (fun tt ht hW => ⟨⟨0, (u9.2, u4), rfl, ⟨rfl, rfl⟩, by rw [ht]; exact hP, kk_warm hW hK, hD⟩, hS.F ht⟩) hS.2.2 dX1_readNumber_16
def M_X1_readNumber   (f : Nat) (w_t : s_R) (w_t_tape : s_T) (v1 : Int32) : Option (Int32 × s_R × s_T) := B_X1_readNumber_0 f w_t w_t_tape v1
set_option maxHeartbeats 4000000 in
set_option maxRecDepth 100000 in
theorem c_X1_readNumber (l : Launch) (D : va_G) (cy : Nat → ClassId) (sz : Nat) (q_t : Nat) (q_t_tape : Nat) (q_t_tape_bytes : Nat) (q_t_world : Nat) (w_t : s_R) (w_t_tape : s_T) (v1 : Int32) {f : Nat} {res : Int32 × s_R × s_T} (h : M_X1_readNumber f w_t w_t_tape v1 = some res) : ct_i l yX1_readNumber (.code yX1_readNumber cX1_readNumber 2 ((some .boolean)) :: wg_L) rm_X1_readNumber D cy sz (wc_X1_readNumber cy q_t q_t_tape q_t_tape_bytes q_t_world w_t w_t_tape) [.ref q_t, .int v1] (fun r (u : s_R × s_T) => r = res.1 ∧ u = res.2) (fun (u : s_R × s_T) => wc_X1_readNumber cy q_t q_t_tape q_t_tape_bytes q_t_world u.1 u.2) := by
  refine Met.ofW (cc := cX1_readNumber) (maxL := 2) (ret := (some .boolean)) (by decide) rfl ?_
  intro p e s m args below meth c s₁ B hml hv
  obtain ⟨rfl, hsz, hP, hK, hD0⟩ := hv
  subst hsz
  have hD := hD0.self (sz := s.heap.size)
  have hl := lv_entry ([.ref q_t, .int v1]) (n := 2) (Nat.le_of_ble_eq_true rfl)
  rw [lg_entry_eq]
  have C0 : cx_C cX1_readNumber ((some .boolean)) 2 RX1 (.code yX1_readNumber cX1_readNumber 2 ((some .boolean)) :: wg_L) p s m [.ref q_t, .int v1].toArray meth c D cy (va_A (wc_X1_readNumber cy q_t q_t_tape q_t_tape_bytes q_t_world w_t w_t_tape) s.heap.size) := ⟨B.exec, B.bytes, B.returns, hml, findClass_of_methodNamed B.named, atoms_spec (ws := .code yX1_readNumber cX1_readNumber 2 ((some .boolean)) :: wg_L) B.pre, hK, B.notSynchronized, fun q h => Or.inr h⟩
  exact b_X1_readNumber_0 C0 h hP hD va_S.rf (lv_sub hl [0, 1] rfl)
/-! ### BarrowGrief$Reader.readRota()Z -/
abbrev wc_X1_readRota (cy : Nat → ClassId) (q_t q_t_tape q_t_tape_bytes q_t_world q_t_world_kind q_t_world_grief q_t_world_bears q_t_world_rota : Nat) (w_t : s_R) (w_t_tape : s_T) (w_t_world : s_W) : va_W := [(q_t, .inr (1, [.ref q_t_tape, .ref q_t_world, .int w_t.1, .int w_t.2.1, .int w_t.2.2])), (q_t_tape, .inr (4, [.ref q_t_tape_bytes, .int w_t_tape.1, .int w_t_tape.2.1, .int w_t_tape.2.2.1, .int w_t_tape.2.2.2.1, .int w_t_tape.2.2.2.2.1])), (q_t_tape_bytes, .inl (cy 0, 160, .inl w_t_tape.2.2.2.2.2)), (q_t_world, .inr (5, [.ref q_t_world_kind, .ref q_t_world_grief, .ref q_t_world_bears, .ref q_t_world_rota, .int w_t_world.1, .int w_t_world.2.1, .int w_t_world.2.2.1, .int w_t_world.2.2.2.1, .int w_t_world.2.2.2.2.1, .int w_t_world.2.2.2.2.2.1, .int w_t_world.2.2.2.2.2.2.1])), (q_t_world_kind, .inl (cy 1, 5, .inl w_t_world.2.2.2.2.2.2.2.1)), (q_t_world_grief, .inl (cy 1, 5, .inl w_t_world.2.2.2.2.2.2.2.2.1)), (q_t_world_bears, .inl (cy 1, 5, .inl w_t_world.2.2.2.2.2.2.2.2.2.1)), (q_t_world_rota, .inl (cy 1, 8, .inl w_t_world.2.2.2.2.2.2.2.2.2.2))]
abbrev rm_X1_readRota : Room := { frames := 2, cells := 0, slots := 0, locals := 42 }
abbrev qq_X1_readRota (below : List Frame) (args : Array Value) (s : State) (D : va_G) (cy : Nat → ClassId) (A : Nat → Prop) (q_t : Nat) (q_t_tape : Nat) (q_t_tape_bytes : Nat) (q_t_world : Nat) (q_t_world_kind : Nat) (q_t_world_grief : Nat) (q_t_world_bears : Nat) (q_t_world_rota : Nat) (res : Int32 × s_R × s_T × s_W) : State → Prop := MQ below (va_Qi (fun r (u : s_R × s_T × s_W) => r = res.1 ∧ u = res.2) (fun u t => st_B D cy A ((fun (u : s_R × s_T × s_W) => wc_X1_readRota cy q_t q_t_tape q_t_tape_bytes q_t_world q_t_world_kind q_t_world_grief q_t_world_bears q_t_world_rota u.1 u.2.1 u.2.2) u) t) A) args s 0 0 A
def B_X1_readRota_100   (f : Nat) (w_t : s_R) (w_t_tape : s_T) (w_t_world : s_W)  : Option (Int32 × s_R × s_T × s_W) := (M_X1_expect w_t_tape w_t 3).bind (fun u102 => gq_b u102.1 (some (u102.1, u102.2, w_t_tape, w_t_world)))
set_option maxHeartbeats 4000000 in
set_option maxRecDepth 100000 in
theorem b_X1_readRota_100 {p : Program} {l : Launch} {e : Env} {s : State} {m : MethodId} {args : Array Value} {below : List Frame} {meth : Method} {c : Code} {D : va_G} {cy : Nat → ClassId} {A : Nat → Prop} {q_t : Nat} {q_t_tape : Nat} {q_t_tape_bytes : Nat} {q_t_world : Nat} {q_t_world_kind : Nat} {q_t_world_grief : Nat} {q_t_world_bears : Nat} {q_t_world_rota : Nat} {res : Int32 × s_R × s_T × s_W}  {f : Nat} {w_t : s_R} {w_t_tape : s_T} {w_t_world : s_W}  (C0 : cx_C cX1_readRota ((some .boolean)) 2 RX1 (.code yX1_readRota cX1_readRota 2 ((some .boolean)) :: wg_L) p s m args meth c D cy A)  (h : B_X1_readRota_100 f w_t w_t_tape w_t_world = some res) {H : Heap} {locs : List Loc} {ls : Array Slot} (hP : va_P D vwCl (wc_X1_readRota cy q_t q_t_tape q_t_tape_bytes q_t_world q_t_world_kind q_t_world_grief q_t_world_bears q_t_world_rota w_t w_t_tape w_t_world) H) (hD : va_D A (wc_X1_readRota cy q_t q_t_tape q_t_tape_bytes q_t_world q_t_world_kind q_t_world_grief q_t_world_bears q_t_world_rota w_t w_t_tape w_t_world)) (hS : va_S A s.heap H locs) (hl : lv_has ls 2 [(0, .ref q_t)]) : W p l e rm_X1_readRota s m args below meth c H locs 0 0 (qq_X1_readRota below args s D cy A q_t q_t_tape q_t_tape_bytes q_t_world q_t_world_kind q_t_world_grief q_t_world_bears q_t_world_rota res) (F0 m 100 ls []) := by
  obtain ⟨hx, hb, hr, hml, hown, hts, hK, hlocks, hA⟩ := id C0
  unfold B_X1_readRota_100 at h
  refine lv_aload_n hx hb dX1_readRota_100 rfl (lv_at hl 0 rfl) ?_
  refine lv_iconst (v := 3) hx hb dX1_readRota_101 (by decide) ?_
  obtain ⟨u102, hc102, h⟩ := bd_d h
  have hPc := hP.sub (ws' := wc_X1_expect cy q_t q_t_tape q_t_tape_bytes q_t_world w_t w_t_tape) [0, 1, 2] rfl
  have hDc := hD.sub (ws' := wc_X1_expect cy q_t q_t_tape q_t_tape_bytes q_t_world w_t w_t_tape) [0, 1, 2] (by decide) rfl
  refine cl_i (fun (u : s_R) => wc_X1_readRota cy q_t q_t_tape q_t_tape_bytes q_t_world q_t_world_kind q_t_world_grief q_t_world_bears q_t_world_rota u w_t_tape w_t_world) (va_runV (As := [.int 3]) (rest := []) (C := RX1) ⟨hx, hb, hml, hown, hts⟩ (c_X1_expect l D cy H.size q_t q_t_tape q_t_tape_bytes q_t_world w_t w_t_tape 3 hc102) ⟨callB_of 1 hts (wg_in k_278) rfl rfl rfl (hts _ (List.mem_cons_of_mem _ k_5)) (hts _ (List.mem_cons_of_mem _ k_275)) (by decide +kernel) ⟨by decide, by decide⟩, (hts _ (List.mem_cons_of_mem _ k_277)), (hts _ (List.mem_cons_of_mem _ ks_3))⟩ ⟨st_blind, va_recv hK.1 hPc (ci := 1) (q0 := 0) rfl rfl, fun U hU hW => st_pre hK hPc hDc hU hW⟩ rfl rfl hl.1 rfl (lv_room (Nat.le_of_ble_eq_true rfl)) dX1_readRota_102 ⟨by decide, by decide⟩) hP hD hS hA [0, 1, 2] [3, 4, 5, 6, 7] [5, 6, 7, 0, 1, 2, 3, 4] rfl rfl (by decide) (by decide) (by decide) (fun _ => rfl) (fun r u H locs hw hP hD hS => ?_)
  obtain ⟨rfl, rfl⟩ := hw
  have hP : va_P D vwCl (wc_X1_readRota cy q_t q_t_tape q_t_tape_bytes q_t_world q_t_world_kind q_t_world_grief q_t_world_bears q_t_world_rota u102.2 w_t_tape w_t_world) H := hP
  have hD : va_D A (wc_X1_readRota cy q_t q_t_tape q_t_tape_bytes q_t_world q_t_world_kind q_t_world_grief q_t_world_bears q_t_world_rota u102.2 w_t_tape w_t_world) := hD
  obtain ⟨hz1, h⟩ := gq_d h
  obtain rfl := Option.some.inj h
  exact W.zret (v := u102.1) hx hb hr hz1.1 (fun tt ht hW => ⟨⟨u102.1, (u102.2, w_t_tape, w_t_world), rfl, ⟨rfl, rfl⟩, by rw [ht]; exact hP, kk_warm hW hK, hD⟩, hS.F ht⟩) hS.2.2 dX1_readRota_105
def B_X1_readRota_27 (k27 : s_R → s_T → s_W → Int32 → Option (Int32 × s_R × s_T × s_W))  (f : Nat) (w_t : s_R) (w_t_tape : s_T) (w_t_world : s_W) (v1 : Int32) : Option (Int32 × s_R × s_T × s_W) := if 8 < v1 then (B_X1_readRota_100 f w_t w_t_tape w_t_world) else (if w_t_tape.2.2.1 = 2 then (if v1 = 8 then ((M_X1_refuse w_t 5).bind (fun u52 => gq_b u52.1 (some (u52.1, u52.2, w_t_tape, w_t_world)))) else (if w_t_tape.2.2.2.2.1 < 5 then ((M_X5_addTurn w_t_world w_t_tape.2.2.2.2.1).bind (fun u84 => (M_X4_advance f w_t_tape).bind (fun u91 => k27 w_t u91 u84 (v1 + 1)))) else ((M_X1_refuse w_t 3).bind (fun u69 => gq_b u69.1 (some (u69.1, u69.2, w_t_tape, w_t_world)))))) else (B_X1_readRota_100 f w_t w_t_tape w_t_world))
set_option maxHeartbeats 4000000 in
set_option maxRecDepth 100000 in
theorem b_X1_readRota_27 {p : Program} {l : Launch} {e : Env} {s : State} {m : MethodId} {args : Array Value} {below : List Frame} {meth : Method} {c : Code} {D : va_G} {cy : Nat → ClassId} {A : Nat → Prop} {q_t : Nat} {q_t_tape : Nat} {q_t_tape_bytes : Nat} {q_t_world : Nat} {q_t_world_kind : Nat} {q_t_world_grief : Nat} {q_t_world_bears : Nat} {q_t_world_rota : Nat} {res : Int32 × s_R × s_T × s_W} {k27 : s_R → s_T → s_W → Int32 → Option (Int32 × s_R × s_T × s_W)} {f : Nat} {w_t : s_R} {w_t_tape : s_T} {w_t_world : s_W} {v1 : Int32} (C0 : cx_C cX1_readRota ((some .boolean)) 2 RX1 (.code yX1_readRota cX1_readRota 2 ((some .boolean)) :: wg_L) p s m args meth c D cy A) (hk27 : ∀ (w_t : s_R) (w_t_tape : s_T) (w_t_world : s_W) (v1 : Int32), k27 w_t w_t_tape w_t_world v1 = some res → ∀ (H : Heap) (locs : List Loc) (ls : Array Slot), va_P D vwCl (wc_X1_readRota cy q_t q_t_tape q_t_tape_bytes q_t_world q_t_world_kind q_t_world_grief q_t_world_bears q_t_world_rota w_t w_t_tape w_t_world) H → va_D A (wc_X1_readRota cy q_t q_t_tape q_t_tape_bytes q_t_world q_t_world_kind q_t_world_grief q_t_world_bears q_t_world_rota w_t w_t_tape w_t_world) → va_S A s.heap H locs → lv_has ls 2 [(0, .ref q_t), (1, .int v1)] → W p l e rm_X1_readRota s m args below meth c H locs 0 0 (qq_X1_readRota below args s D cy A q_t q_t_tape q_t_tape_bytes q_t_world q_t_world_kind q_t_world_grief q_t_world_bears q_t_world_rota res) (F0 m 27 ls [])) (h : B_X1_readRota_27 k27 f w_t w_t_tape w_t_world v1 = some res) {H : Heap} {locs : List Loc} {ls : Array Slot} (hP : va_P D vwCl (wc_X1_readRota cy q_t q_t_tape q_t_tape_bytes q_t_world q_t_world_kind q_t_world_grief q_t_world_bears q_t_world_rota w_t w_t_tape w_t_world) H) (hD : va_D A (wc_X1_readRota cy q_t q_t_tape q_t_tape_bytes q_t_world q_t_world_kind q_t_world_grief q_t_world_bears q_t_world_rota w_t w_t_tape w_t_world)) (hS : va_S A s.heap H locs) (hl : lv_has ls 2 [(0, .ref q_t), (1, .int v1)]) : W p l e rm_X1_readRota s m args below meth c H locs 0 0 (qq_X1_readRota below args s D cy A q_t q_t_tape q_t_tape_bytes q_t_world q_t_world_kind q_t_world_grief q_t_world_bears q_t_world_rota res) (F0 m 27 ls []) := by
  obtain ⟨hx, hb, hr, hml, hown, hts, hK, hlocks, hA⟩ := id C0
  unfold B_X1_readRota_27 at h
  refine lv_iload_n hx hb dX1_readRota_27 rfl (lv_at hl 1 rfl) ?_
  refine lv_bipush (v := 8) hx hb dX1_readRota_28 (by decide) ?_
  refine lv_icmp_gt (tgt := 100) hx hb dX1_readRota_30 (by decide) (fun c30 => ?_) (fun c30 => ?_)
  · replace h := it_p c30 h
    exact b_X1_readRota_100 C0 h hP hD hS (lv_sub hl [0] rfl)
  · replace h := it_n c30 h
    refine lv_aload_n hx hb dX1_readRota_33 rfl (lv_at hl 0 rfl) ?_
    refine va_get (D := D) (ci := 1) (v := .ref q_t_tape) (C := RX1) (T := TX1) (N := 5) hx hb hts (fun w hw => List.mem_cons_of_mem _ (uw_X1 w hw)) hown hK.1 hP 0 rfl rfl 0 (by decide) (hts _ (List.mem_cons_of_mem _ k_147)) (fun _ h9 => h9) rfl dX1_readRota_34 ?_
    refine va_get (D := D) (ci := 4) (v := .int w_t_tape.2.2.1) (C := RX4) (T := TX4) (N := 6) hx hb hts (fun w hw => List.mem_cons_of_mem _ (uw_X4 w hw)) hown hK.1 hP 1 rfl rfl 3 (by decide) (hts _ (List.mem_cons_of_mem _ k_121)) (fun _ h9 => h9) rfl dX1_readRota_37 ?_
    refine lv_iconst (v := 2) hx hb dX1_readRota_40 (by decide) ?_
    refine lv_icmp_ne (tgt := 100) hx hb dX1_readRota_41 (by decide) (fun c41 => ?_) (fun c41 => ?_)
    · replace h := it_n c41 h
      exact b_X1_readRota_100 C0 h hP hD hS (lv_sub hl [0] rfl)
    · replace h := it_p c41 h
      refine lv_iload_n hx hb dX1_readRota_44 rfl (lv_at hl 1 rfl) ?_
      refine lv_bipush (v := 8) hx hb dX1_readRota_45 (by decide) ?_
      refine lv_icmp_ne (tgt := 56) hx hb dX1_readRota_47 (by decide) (fun c47 => ?_) (fun c47 => ?_)
      · replace h := it_n c47 h
        refine lv_aload_n hx hb dX1_readRota_56 rfl (lv_at hl 0 rfl) ?_
        refine va_get (D := D) (ci := 1) (v := .ref q_t_tape) (C := RX1) (T := TX1) (N := 5) hx hb hts (fun w hw => List.mem_cons_of_mem _ (uw_X1 w hw)) hown hK.1 hP 0 rfl rfl 0 (by decide) (hts _ (List.mem_cons_of_mem _ k_147)) (fun _ h9 => h9) rfl dX1_readRota_57 ?_
        refine va_get (D := D) (ci := 4) (v := .int w_t_tape.2.2.2.2.1) (C := RX4) (T := TX4) (N := 6) hx hb hts (fun w hw => List.mem_cons_of_mem _ (uw_X4 w hw)) hown hK.1 hP 1 rfl rfl 5 (by decide) (hts _ (List.mem_cons_of_mem _ k_126)) (fun _ h9 => h9) rfl dX1_readRota_60 ?_
        refine lv_iconst (v := 5) hx hb dX1_readRota_63 (by decide) ?_
        refine lv_icmp_lt (tgt := 73) hx hb dX1_readRota_64 (by decide) (fun c64 => ?_) (fun c64 => ?_)
        · replace h := it_p c64 h
          refine lv_aload_n hx hb dX1_readRota_73 rfl (lv_at hl 0 rfl) ?_
          refine va_get (D := D) (ci := 1) (v := .ref q_t_world) (C := RX1) (T := TX1) (N := 5) hx hb hts (fun w hw => List.mem_cons_of_mem _ (uw_X1 w hw)) hown hK.1 hP 0 rfl rfl 1 (by decide) (hts _ (List.mem_cons_of_mem _ k_148)) (fun _ h9 => h9) rfl dX1_readRota_74 ?_
          refine lv_aload_n hx hb dX1_readRota_77 rfl (lv_at hl 0 rfl) ?_
          refine va_get (D := D) (ci := 1) (v := .ref q_t_tape) (C := RX1) (T := TX1) (N := 5) hx hb hts (fun w hw => List.mem_cons_of_mem _ (uw_X1 w hw)) hown hK.1 hP 0 rfl rfl 0 (by decide) (hts _ (List.mem_cons_of_mem _ k_147)) (fun _ h9 => h9) rfl dX1_readRota_78 ?_
          refine va_get (D := D) (ci := 4) (v := .int w_t_tape.2.2.2.2.1) (C := RX4) (T := TX4) (N := 6) hx hb hts (fun w hw => List.mem_cons_of_mem _ (uw_X4 w hw)) hown hK.1 hP 1 rfl rfl 5 (by decide) (hts _ (List.mem_cons_of_mem _ k_126)) (fun _ h9 => h9) rfl dX1_readRota_81 ?_
          obtain ⟨u84, hc84, h⟩ := bd_d h
          have hPc := hP.sub (ws' := wc_X5_addTurn cy q_t_world q_t_world_kind q_t_world_grief q_t_world_bears q_t_world_rota w_t_world) [3, 4, 5, 6, 7] rfl
          have hDc := hD.sub (ws' := wc_X5_addTurn cy q_t_world q_t_world_kind q_t_world_grief q_t_world_bears q_t_world_rota w_t_world) [3, 4, 5, 6, 7] (by decide) rfl
          refine cl_v (fun (u : s_W) => wc_X1_readRota cy q_t q_t_tape q_t_tape_bytes q_t_world q_t_world_kind q_t_world_grief q_t_world_bears q_t_world_rota w_t w_t_tape u) (va_runV (As := [.int w_t_tape.2.2.2.2.1]) (rest := []) (C := RX5) ⟨hx, hb, hml, hown, hts⟩ (c_X5_addTurn l D cy H.size q_t_world q_t_world_kind q_t_world_grief q_t_world_bears q_t_world_rota w_t_world w_t_tape.2.2.2.2.1 hc84) ⟨callB_of 1 hts (wg_in k_364) rfl rfl rfl (hts _ (List.mem_cons_of_mem _ k_2)) (hts _ (List.mem_cons_of_mem _ k_361)) (by decide +kernel) ⟨by decide, by decide⟩, (hts _ (List.mem_cons_of_mem _ k_362)), (hts _ (List.mem_cons_of_mem _ k_363))⟩ ⟨st_blind, va_recv hK.1 hPc (ci := 5) (q0 := 0) rfl rfl, fun U hU hW => st_pre hK hPc hDc hU hW⟩ rfl rfl hl.1 rfl (lv_room (Nat.le_of_ble_eq_true rfl)) dX1_readRota_84 ⟨by decide, by decide⟩) hP hD hS hA [3, 4, 5, 6, 7] [0, 1, 2] [0, 1, 2, 3, 4, 5, 6, 7] rfl rfl (by decide) (by decide) (by decide) (fun _ => rfl) (fun u H locs hw hP hD hS => ?_)
          obtain rfl := hw.symm
          have hP : va_P D vwCl (wc_X1_readRota cy q_t q_t_tape q_t_tape_bytes q_t_world q_t_world_kind q_t_world_grief q_t_world_bears q_t_world_rota w_t w_t_tape u84) H := hP
          have hD : va_D A (wc_X1_readRota cy q_t q_t_tape q_t_tape_bytes q_t_world q_t_world_kind q_t_world_grief q_t_world_bears q_t_world_rota w_t w_t_tape u84) := hD
          refine lv_aload_n hx hb dX1_readRota_87 rfl (lv_at hl 0 rfl) ?_
          refine va_get (D := D) (ci := 1) (v := .ref q_t_tape) (C := RX1) (T := TX1) (N := 5) hx hb hts (fun w hw => List.mem_cons_of_mem _ (uw_X1 w hw)) hown hK.1 hP 0 rfl rfl 0 (by decide) (hts _ (List.mem_cons_of_mem _ k_147)) (fun _ h9 => h9) rfl dX1_readRota_88 ?_
          obtain ⟨u91, hc91, h⟩ := bd_d h
          have hPc := hP.sub (ws' := wc_X4_advance cy q_t_tape q_t_tape_bytes w_t_tape) [1, 2] rfl
          have hDc := hD.sub (ws' := wc_X4_advance cy q_t_tape q_t_tape_bytes w_t_tape) [1, 2] (by decide) rfl
          refine cl_v (fun (u : s_T) => wc_X1_readRota cy q_t q_t_tape q_t_tape_bytes q_t_world q_t_world_kind q_t_world_grief q_t_world_bears q_t_world_rota w_t u u84) (va_runV (As := []) (rest := []) (C := RX4) ⟨hx, hb, hml, hown, hts⟩ (c_X4_advance l D cy H.size q_t_tape q_t_tape_bytes w_t_tape hc91) ⟨callB_of 0 hts (wg_in k_262) rfl rfl rfl (hts _ (List.mem_cons_of_mem _ k_4)) (hts _ (List.mem_cons_of_mem _ k_259)) (by decide +kernel) ⟨by decide, by decide⟩, (hts _ (List.mem_cons_of_mem _ k_260)), (hts _ (List.mem_cons_of_mem _ k_261))⟩ ⟨st_blind, va_recv hK.1 hPc (ci := 4) (q0 := 0) rfl rfl, fun U hU hW => st_pre hK hPc hDc hU hW⟩ rfl rfl hl.1 rfl (lv_room (Nat.le_of_ble_eq_true rfl)) dX1_readRota_91 ⟨by decide, by decide⟩) hP hD hS hA [1, 2] [0, 3, 4, 5, 6, 7] [0, 6, 7, 1, 2, 3, 4, 5] rfl rfl (by decide) (by decide) (by decide) (fun _ => rfl) (fun u H locs hw hP hD hS => ?_)
          obtain rfl := hw.symm
          have hP : va_P D vwCl (wc_X1_readRota cy q_t q_t_tape q_t_tape_bytes q_t_world q_t_world_kind q_t_world_grief q_t_world_bears q_t_world_rota w_t u91 u84) H := hP
          have hD : va_D A (wc_X1_readRota cy q_t q_t_tape q_t_tape_bytes q_t_world q_t_world_kind q_t_world_grief q_t_world_bears q_t_world_rota w_t u91 u84) := hD
          refine lv_iinc (v := (v1 + 1)) (lv' := [(1, .int (v1 + 1)), (0, .ref q_t)]) hx hb dX1_readRota_94 hl (k := 1) rfl (by rfl) (by decide) rfl (fun ls hl => ?_)
          refine lv_goto (tgt := 27) hx hb dX1_readRota_97 (by decide) ?_
          exact hk27 _ _ _ _ h _ _ _ hP hD hS (lv_sub hl [1, 0] rfl)
        · replace h := it_n c64 h
          refine lv_aload_n hx hb dX1_readRota_67 rfl (lv_at hl 0 rfl) ?_
          refine lv_iconst (v := 3) hx hb dX1_readRota_68 (by decide) ?_
          obtain ⟨u69, hc69, h⟩ := bd_d h
          have hPc := hP.sub (ws' := wc_X1_refuse cy q_t q_t_tape q_t_world w_t) [0] rfl
          have hDc := hD.sub (ws' := wc_X1_refuse cy q_t q_t_tape q_t_world w_t) [0] (by decide) rfl
          refine cl_i (fun (u : s_R) => wc_X1_readRota cy q_t q_t_tape q_t_tape_bytes q_t_world q_t_world_kind q_t_world_grief q_t_world_bears q_t_world_rota u w_t_tape w_t_world) (va_runV (As := [.int 3]) (rest := []) (C := RX1) ⟨hx, hb, hml, hown, hts⟩ (c_X1_refuse l D cy H.size q_t q_t_tape q_t_world w_t 3 hc69) ⟨callB_of 1 hts (wg_in k_282) rfl rfl rfl (hts _ (List.mem_cons_of_mem _ k_5)) (hts _ (List.mem_cons_of_mem _ k_279)) (by decide +kernel) ⟨by decide, by decide⟩, (hts _ (List.mem_cons_of_mem _ k_281)), (hts _ (List.mem_cons_of_mem _ ks_4))⟩ ⟨st_blind, va_recv hK.1 hPc (ci := 1) (q0 := 0) rfl rfl, fun U hU hW => st_pre hK hPc hDc hU hW⟩ rfl rfl hl.1 rfl (lv_room (Nat.le_of_ble_eq_true rfl)) dX1_readRota_69 ⟨by decide, by decide⟩) hP hD hS hA [0] [1, 2, 3, 4, 5, 6, 7] [7, 0, 1, 2, 3, 4, 5, 6] rfl rfl (by decide) (by decide) (by decide) (fun _ => rfl) (fun r u H locs hw hP hD hS => ?_)
          obtain ⟨rfl, rfl⟩ := hw
          have hP : va_P D vwCl (wc_X1_readRota cy q_t q_t_tape q_t_tape_bytes q_t_world q_t_world_kind q_t_world_grief q_t_world_bears q_t_world_rota u69.2 w_t_tape w_t_world) H := hP
          have hD : va_D A (wc_X1_readRota cy q_t q_t_tape q_t_tape_bytes q_t_world q_t_world_kind q_t_world_grief q_t_world_bears q_t_world_rota u69.2 w_t_tape w_t_world) := hD
          obtain ⟨hz2, h⟩ := gq_d h
          obtain rfl := Option.some.inj h
          exact W.zret (v := u69.1) hx hb hr hz2.1 (fun tt ht hW => ⟨⟨u69.1, (u69.2, w_t_tape, w_t_world), rfl, ⟨rfl, rfl⟩, by rw [ht]; exact hP, kk_warm hW hK, hD⟩, hS.F ht⟩) hS.2.2 dX1_readRota_72
      · replace h := it_p c47 h
        refine lv_aload_n hx hb dX1_readRota_50 rfl (lv_at hl 0 rfl) ?_
        refine lv_iconst (v := 5) hx hb dX1_readRota_51 (by decide) ?_
        obtain ⟨u52, hc52, h⟩ := bd_d h
        have hPc := hP.sub (ws' := wc_X1_refuse cy q_t q_t_tape q_t_world w_t) [0] rfl
        have hDc := hD.sub (ws' := wc_X1_refuse cy q_t q_t_tape q_t_world w_t) [0] (by decide) rfl
        refine cl_i (fun (u : s_R) => wc_X1_readRota cy q_t q_t_tape q_t_tape_bytes q_t_world q_t_world_kind q_t_world_grief q_t_world_bears q_t_world_rota u w_t_tape w_t_world) (va_runV (As := [.int 5]) (rest := []) (C := RX1) ⟨hx, hb, hml, hown, hts⟩ (c_X1_refuse l D cy H.size q_t q_t_tape q_t_world w_t 5 hc52) ⟨callB_of 1 hts (wg_in k_282) rfl rfl rfl (hts _ (List.mem_cons_of_mem _ k_5)) (hts _ (List.mem_cons_of_mem _ k_279)) (by decide +kernel) ⟨by decide, by decide⟩, (hts _ (List.mem_cons_of_mem _ k_281)), (hts _ (List.mem_cons_of_mem _ ks_4))⟩ ⟨st_blind, va_recv hK.1 hPc (ci := 1) (q0 := 0) rfl rfl, fun U hU hW => st_pre hK hPc hDc hU hW⟩ rfl rfl hl.1 rfl (lv_room (Nat.le_of_ble_eq_true rfl)) dX1_readRota_52 ⟨by decide, by decide⟩) hP hD hS hA [0] [1, 2, 3, 4, 5, 6, 7] [7, 0, 1, 2, 3, 4, 5, 6] rfl rfl (by decide) (by decide) (by decide) (fun _ => rfl) (fun r u H locs hw hP hD hS => ?_)
        obtain ⟨rfl, rfl⟩ := hw
        have hP : va_P D vwCl (wc_X1_readRota cy q_t q_t_tape q_t_tape_bytes q_t_world q_t_world_kind q_t_world_grief q_t_world_bears q_t_world_rota u52.2 w_t_tape w_t_world) H := hP
        have hD : va_D A (wc_X1_readRota cy q_t q_t_tape q_t_tape_bytes q_t_world q_t_world_kind q_t_world_grief q_t_world_bears q_t_world_rota u52.2 w_t_tape w_t_world) := hD
        obtain ⟨hz3, h⟩ := gq_d h
        obtain rfl := Option.some.inj h
        exact W.zret (v := u52.1) hx hb hr hz3.1 (fun tt ht hW => ⟨⟨u52.1, (u52.2, w_t_tape, w_t_world), rfl, ⟨rfl, rfl⟩, by rw [ht]; exact hP, kk_warm hW hK, hD⟩, hS.F ht⟩) hS.2.2 dX1_readRota_55
def M_X1_readRota_27   : Nat → s_R → s_T → s_W → Int32 → Option (Int32 × s_R × s_T × s_W)
  | 0, _, _, _, _ => none
  | f + 1, w_t, w_t_tape, w_t_world, v1 => B_X1_readRota_27 (M_X1_readRota_27 f) f w_t w_t_tape w_t_world v1
theorem t_X1_readRota_27 {p : Program} {l : Launch} {e : Env} {s : State} {m : MethodId} {args : Array Value} {below : List Frame} {meth : Method} {c : Code} {D : va_G} {cy : Nat → ClassId} {A : Nat → Prop} {q_t : Nat} {q_t_tape : Nat} {q_t_tape_bytes : Nat} {q_t_world : Nat} {q_t_world_kind : Nat} {q_t_world_grief : Nat} {q_t_world_bears : Nat} {q_t_world_rota : Nat} {res : Int32 × s_R × s_T × s_W}  (C0 : cx_C cX1_readRota ((some .boolean)) 2 RX1 (.code yX1_readRota cX1_readRota 2 ((some .boolean)) :: wg_L) p s m args meth c D cy A)  : ∀ (f : Nat) (w_t : s_R) (w_t_tape : s_T) (w_t_world : s_W) (v1 : Int32), M_X1_readRota_27 f w_t w_t_tape w_t_world v1 = some res → ∀ (H : Heap) (locs : List Loc) (ls : Array Slot), va_P D vwCl (wc_X1_readRota cy q_t q_t_tape q_t_tape_bytes q_t_world q_t_world_kind q_t_world_grief q_t_world_bears q_t_world_rota w_t w_t_tape w_t_world) H → va_D A (wc_X1_readRota cy q_t q_t_tape q_t_tape_bytes q_t_world q_t_world_kind q_t_world_grief q_t_world_bears q_t_world_rota w_t w_t_tape w_t_world) → va_S A s.heap H locs → lv_has ls 2 [(0, .ref q_t), (1, .int v1)] → W p l e rm_X1_readRota s m args below meth c H locs 0 0 (qq_X1_readRota below args s D cy A q_t q_t_tape q_t_tape_bytes q_t_world q_t_world_kind q_t_world_grief q_t_world_bears q_t_world_rota res) (F0 m 27 ls []) := by
  intro f
  induction f with
  | zero =>
    intro _ _ _ _ h
    exact absurd (show (none : Option (Int32 × s_R × s_T × s_W)) = some res from h) (fun q => by cases q)
  | succ f ih =>
    intro w_t w_t_tape w_t_world v1 h H locs ls hP hD hS hl
    have h : B_X1_readRota_27 (M_X1_readRota_27 f) f w_t w_t_tape w_t_world v1 = some res := h
    exact b_X1_readRota_27 C0 ih h hP hD hS hl
def B_X1_readRota_0   (f : Nat) (w_t : s_R) (w_t_tape : s_T) (w_t_world : s_W)  : Option (Int32 × s_R × s_T × s_W) := if w_t.2.1 = 0 then ((M_X4_advance f w_t_tape).bind (fun u22 => M_X1_readRota_27 f (w_t.1, 1, w_t.2.2) u22 w_t_world 0)) else ((M_X1_refuse w_t 4).bind (fun u9 => gq_b u9.1 (some (u9.1, u9.2, w_t_tape, w_t_world))))
set_option maxHeartbeats 4000000 in
set_option maxRecDepth 100000 in
theorem b_X1_readRota_0 {p : Program} {l : Launch} {e : Env} {s : State} {m : MethodId} {args : Array Value} {below : List Frame} {meth : Method} {c : Code} {D : va_G} {cy : Nat → ClassId} {A : Nat → Prop} {q_t : Nat} {q_t_tape : Nat} {q_t_tape_bytes : Nat} {q_t_world : Nat} {q_t_world_kind : Nat} {q_t_world_grief : Nat} {q_t_world_bears : Nat} {q_t_world_rota : Nat} {res : Int32 × s_R × s_T × s_W}  {f : Nat} {w_t : s_R} {w_t_tape : s_T} {w_t_world : s_W}  (C0 : cx_C cX1_readRota ((some .boolean)) 2 RX1 (.code yX1_readRota cX1_readRota 2 ((some .boolean)) :: wg_L) p s m args meth c D cy A)  (h : B_X1_readRota_0 f w_t w_t_tape w_t_world = some res) {H : Heap} {locs : List Loc} {ls : Array Slot} (hP : va_P D vwCl (wc_X1_readRota cy q_t q_t_tape q_t_tape_bytes q_t_world q_t_world_kind q_t_world_grief q_t_world_bears q_t_world_rota w_t w_t_tape w_t_world) H) (hD : va_D A (wc_X1_readRota cy q_t q_t_tape q_t_tape_bytes q_t_world q_t_world_kind q_t_world_grief q_t_world_bears q_t_world_rota w_t w_t_tape w_t_world)) (hS : va_S A s.heap H locs) (hl : lv_has ls 2 [(0, .ref q_t)]) : W p l e rm_X1_readRota s m args below meth c H locs 0 0 (qq_X1_readRota below args s D cy A q_t q_t_tape q_t_tape_bytes q_t_world q_t_world_kind q_t_world_grief q_t_world_bears q_t_world_rota res) (F0 m 0 ls []) := by
  obtain ⟨hx, hb, hr, hml, hown, hts, hK, hlocks, hA⟩ := id C0
  unfold B_X1_readRota_0 at h
  refine lv_aload_n hx hb dX1_readRota_0 rfl (lv_at hl 0 rfl) ?_
  refine va_get (D := D) (ci := 1) (v := .int w_t.2.1) (C := RX1) (T := TX1) (N := 5) hx hb hts (fun w hw => List.mem_cons_of_mem _ (uw_X1 w hw)) hown hK.1 hP 0 rfl rfl 3 (by decide) (hts _ (List.mem_cons_of_mem _ k_150)) (fun _ h9 => h9) rfl dX1_readRota_1 ?_
  refine lv_if_eq (tgt := 13) hx hb dX1_readRota_4 (by decide) (fun c4 => ?_) (fun c4 => ?_)
  · replace h := it_p c4 h
    refine lv_aload_n hx hb dX1_readRota_13 rfl (lv_at hl 0 rfl) ?_
    refine lv_iconst (v := 1) hx hb dX1_readRota_14 (by decide) ?_
    refine va_put (D := D) (ci := 1) (v := .int 1) (ty := .boolean) (C := RX1) (T := TX1) (N := 5) hx hb hts (fun w hw => List.mem_cons_of_mem _ (uw_X1 w hw)) tyX1 tyX1_ok nmX1 hown hK.1 hP hD hS 0 rfl rfl 3 (by decide) (hts _ (List.mem_cons_of_mem _ k_150)) (fun _ h9 => h9) rfl (by decide +kernel) rfl rfl (Nat.le_of_ble_eq_true rfl) dX1_readRota_15 (fun H locs hP hD hS => ?_)
    have hP : va_P D vwCl (wc_X1_readRota cy q_t q_t_tape q_t_tape_bytes q_t_world q_t_world_kind q_t_world_grief q_t_world_bears q_t_world_rota (w_t.1, 1, w_t.2.2) w_t_tape w_t_world) H := hP
    have hD : va_D A (wc_X1_readRota cy q_t q_t_tape q_t_tape_bytes q_t_world q_t_world_kind q_t_world_grief q_t_world_bears q_t_world_rota (w_t.1, 1, w_t.2.2) w_t_tape w_t_world) := hD
    refine lv_aload_n hx hb dX1_readRota_18 rfl (lv_at hl 0 rfl) ?_
    refine va_get (D := D) (ci := 1) (v := .ref q_t_tape) (C := RX1) (T := TX1) (N := 5) hx hb hts (fun w hw => List.mem_cons_of_mem _ (uw_X1 w hw)) hown hK.1 hP 0 rfl rfl 0 (by decide) (hts _ (List.mem_cons_of_mem _ k_147)) (fun _ h9 => h9) rfl dX1_readRota_19 ?_
    obtain ⟨u22, hc22, h⟩ := bd_d h
    have hPc := hP.sub (ws' := wc_X4_advance cy q_t_tape q_t_tape_bytes w_t_tape) [1, 2] rfl
    have hDc := hD.sub (ws' := wc_X4_advance cy q_t_tape q_t_tape_bytes w_t_tape) [1, 2] (by decide) rfl
    refine cl_v (fun (u : s_T) => wc_X1_readRota cy q_t q_t_tape q_t_tape_bytes q_t_world q_t_world_kind q_t_world_grief q_t_world_bears q_t_world_rota (w_t.1, 1, w_t.2.2) u w_t_world) (va_runV (As := []) (rest := []) (C := RX4) ⟨hx, hb, hml, hown, hts⟩ (c_X4_advance l D cy H.size q_t_tape q_t_tape_bytes w_t_tape hc22) ⟨callB_of 0 hts (wg_in k_262) rfl rfl rfl (hts _ (List.mem_cons_of_mem _ k_4)) (hts _ (List.mem_cons_of_mem _ k_259)) (by decide +kernel) ⟨by decide, by decide⟩, (hts _ (List.mem_cons_of_mem _ k_260)), (hts _ (List.mem_cons_of_mem _ k_261))⟩ ⟨st_blind, va_recv hK.1 hPc (ci := 4) (q0 := 0) rfl rfl, fun U hU hW => st_pre hK hPc hDc hU hW⟩ rfl rfl hl.1 rfl (lv_room (Nat.le_of_ble_eq_true rfl)) dX1_readRota_22 ⟨by decide, by decide⟩) hP hD hS hA [1, 2] [0, 3, 4, 5, 6, 7] [0, 6, 7, 1, 2, 3, 4, 5] rfl rfl (by decide) (by decide) (by decide) (fun _ => rfl) (fun u H locs hw hP hD hS => ?_)
    obtain rfl := hw.symm
    have hP : va_P D vwCl (wc_X1_readRota cy q_t q_t_tape q_t_tape_bytes q_t_world q_t_world_kind q_t_world_grief q_t_world_bears q_t_world_rota (w_t.1, 1, w_t.2.2) u22 w_t_world) H := hP
    have hD : va_D A (wc_X1_readRota cy q_t q_t_tape q_t_tape_bytes q_t_world q_t_world_kind q_t_world_grief q_t_world_bears q_t_world_rota (w_t.1, 1, w_t.2.2) u22 w_t_world) := hD
    refine lv_iconst (v := 0) hx hb dX1_readRota_25 (by decide) ?_
    refine lv_istore_n (lv' := [(1, .int 0), (0, .ref q_t)]) hx hb dX1_readRota_26 rfl hl (by decide) rfl (fun ls hl => ?_)
    exact t_X1_readRota_27 C0 _ _ _ _ _ h _ _ _ hP hD hS (lv_sub hl [1, 0] rfl)
  · replace h := it_n c4 h
    refine lv_aload_n hx hb dX1_readRota_7 rfl (lv_at hl 0 rfl) ?_
    refine lv_iconst (v := 4) hx hb dX1_readRota_8 (by decide) ?_
    obtain ⟨u9, hc9, h⟩ := bd_d h
    have hPc := hP.sub (ws' := wc_X1_refuse cy q_t q_t_tape q_t_world w_t) [0] rfl
    have hDc := hD.sub (ws' := wc_X1_refuse cy q_t q_t_tape q_t_world w_t) [0] (by decide) rfl
    refine cl_i (fun (u : s_R) => wc_X1_readRota cy q_t q_t_tape q_t_tape_bytes q_t_world q_t_world_kind q_t_world_grief q_t_world_bears q_t_world_rota u w_t_tape w_t_world) (va_runV (As := [.int 4]) (rest := []) (C := RX1) ⟨hx, hb, hml, hown, hts⟩ (c_X1_refuse l D cy H.size q_t q_t_tape q_t_world w_t 4 hc9) ⟨callB_of 1 hts (wg_in k_282) rfl rfl rfl (hts _ (List.mem_cons_of_mem _ k_5)) (hts _ (List.mem_cons_of_mem _ k_279)) (by decide +kernel) ⟨by decide, by decide⟩, (hts _ (List.mem_cons_of_mem _ k_281)), (hts _ (List.mem_cons_of_mem _ ks_4))⟩ ⟨st_blind, va_recv hK.1 hPc (ci := 1) (q0 := 0) rfl rfl, fun U hU hW => st_pre hK hPc hDc hU hW⟩ rfl rfl hl.1 rfl (lv_room (Nat.le_of_ble_eq_true rfl)) dX1_readRota_9 ⟨by decide, by decide⟩) hP hD hS hA [0] [1, 2, 3, 4, 5, 6, 7] [7, 0, 1, 2, 3, 4, 5, 6] rfl rfl (by decide) (by decide) (by decide) (fun _ => rfl) (fun r u H locs hw hP hD hS => ?_)
    obtain ⟨rfl, rfl⟩ := hw
    have hP : va_P D vwCl (wc_X1_readRota cy q_t q_t_tape q_t_tape_bytes q_t_world q_t_world_kind q_t_world_grief q_t_world_bears q_t_world_rota u9.2 w_t_tape w_t_world) H := hP
    have hD : va_D A (wc_X1_readRota cy q_t q_t_tape q_t_tape_bytes q_t_world q_t_world_kind q_t_world_grief q_t_world_bears q_t_world_rota u9.2 w_t_tape w_t_world) := hD
    obtain ⟨hz4, h⟩ := gq_d h
    obtain rfl := Option.some.inj h
    exact W.zret (v := u9.1) hx hb hr hz4.1 (fun tt ht hW => ⟨⟨u9.1, (u9.2, w_t_tape, w_t_world), rfl, ⟨rfl, rfl⟩, by rw [ht]; exact hP, kk_warm hW hK, hD⟩, hS.F ht⟩) hS.2.2 dX1_readRota_12
def M_X1_readRota   (f : Nat) (w_t : s_R) (w_t_tape : s_T) (w_t_world : s_W)  : Option (Int32 × s_R × s_T × s_W) := B_X1_readRota_0 f w_t w_t_tape w_t_world
set_option maxHeartbeats 4000000 in
set_option maxRecDepth 100000 in
theorem c_X1_readRota (l : Launch) (D : va_G) (cy : Nat → ClassId) (sz : Nat) (q_t : Nat) (q_t_tape : Nat) (q_t_tape_bytes : Nat) (q_t_world : Nat) (q_t_world_kind : Nat) (q_t_world_grief : Nat) (q_t_world_bears : Nat) (q_t_world_rota : Nat) (w_t : s_R) (w_t_tape : s_T) (w_t_world : s_W)  {f : Nat} {res : Int32 × s_R × s_T × s_W} (h : M_X1_readRota f w_t w_t_tape w_t_world = some res) : ct_i l yX1_readRota (.code yX1_readRota cX1_readRota 2 ((some .boolean)) :: wg_L) rm_X1_readRota D cy sz (wc_X1_readRota cy q_t q_t_tape q_t_tape_bytes q_t_world q_t_world_kind q_t_world_grief q_t_world_bears q_t_world_rota w_t w_t_tape w_t_world) [.ref q_t] (fun r (u : s_R × s_T × s_W) => r = res.1 ∧ u = res.2) (fun (u : s_R × s_T × s_W) => wc_X1_readRota cy q_t q_t_tape q_t_tape_bytes q_t_world q_t_world_kind q_t_world_grief q_t_world_bears q_t_world_rota u.1 u.2.1 u.2.2) := by
  refine Met.ofW (cc := cX1_readRota) (maxL := 2) (ret := (some .boolean)) (by decide) rfl ?_
  intro p e s m args below meth c s₁ B hml hv
  obtain ⟨rfl, hsz, hP, hK, hD0⟩ := hv
  subst hsz
  have hD := hD0.self (sz := s.heap.size)
  have hl := lv_entry ([.ref q_t]) (n := 2) (Nat.le_of_ble_eq_true rfl)
  rw [lg_entry_eq]
  have C0 : cx_C cX1_readRota ((some .boolean)) 2 RX1 (.code yX1_readRota cX1_readRota 2 ((some .boolean)) :: wg_L) p s m [.ref q_t].toArray meth c D cy (va_A (wc_X1_readRota cy q_t q_t_tape q_t_tape_bytes q_t_world q_t_world_kind q_t_world_grief q_t_world_bears q_t_world_rota w_t w_t_tape w_t_world) s.heap.size) := ⟨B.exec, B.bytes, B.returns, hml, findClass_of_methodNamed B.named, atoms_spec (ws := .code yX1_readRota cX1_readRota 2 ((some .boolean)) :: wg_L) B.pre, hK, B.notSynchronized, fun q h => Or.inr h⟩
  exact b_X1_readRota_0 C0 h hP hD va_S.rf (lv_sub hl [0] rfl)
/-! ### BarrowGrief$Reader.readBarrow()Z -/
abbrev wc_X1_readBarrow (cy : Nat → ClassId) (q_t q_t_tape q_t_tape_bytes q_t_world q_t_world_kind q_t_world_grief q_t_world_bears q_t_world_rota : Nat) (w_t : s_R) (w_t_tape : s_T) (w_t_world : s_W) : va_W := [(q_t, .inr (1, [.ref q_t_tape, .ref q_t_world, .int w_t.1, .int w_t.2.1, .int w_t.2.2])), (q_t_tape, .inr (4, [.ref q_t_tape_bytes, .int w_t_tape.1, .int w_t_tape.2.1, .int w_t_tape.2.2.1, .int w_t_tape.2.2.2.1, .int w_t_tape.2.2.2.2.1])), (q_t_tape_bytes, .inl (cy 0, 160, .inl w_t_tape.2.2.2.2.2)), (q_t_world, .inr (5, [.ref q_t_world_kind, .ref q_t_world_grief, .ref q_t_world_bears, .ref q_t_world_rota, .int w_t_world.1, .int w_t_world.2.1, .int w_t_world.2.2.1, .int w_t_world.2.2.2.1, .int w_t_world.2.2.2.2.1, .int w_t_world.2.2.2.2.2.1, .int w_t_world.2.2.2.2.2.2.1])), (q_t_world_kind, .inl (cy 1, 5, .inl w_t_world.2.2.2.2.2.2.2.1)), (q_t_world_grief, .inl (cy 1, 5, .inl w_t_world.2.2.2.2.2.2.2.2.1)), (q_t_world_bears, .inl (cy 1, 5, .inl w_t_world.2.2.2.2.2.2.2.2.2.1)), (q_t_world_rota, .inl (cy 1, 8, .inl w_t_world.2.2.2.2.2.2.2.2.2.2))]
abbrev rm_X1_readBarrow : Room := { frames := 3, cells := 0, slots := 0, locals := 63 }
abbrev qq_X1_readBarrow (below : List Frame) (args : Array Value) (s : State) (D : va_G) (cy : Nat → ClassId) (A : Nat → Prop) (q_t : Nat) (q_t_tape : Nat) (q_t_tape_bytes : Nat) (q_t_world : Nat) (q_t_world_kind : Nat) (q_t_world_grief : Nat) (q_t_world_bears : Nat) (q_t_world_rota : Nat) (res : Int32 × s_R × s_T × s_W) : State → Prop := MQ below (va_Qi (fun r (u : s_R × s_T × s_W) => r = res.1 ∧ u = res.2) (fun u t => st_B D cy A ((fun (u : s_R × s_T × s_W) => wc_X1_readBarrow cy q_t q_t_tape q_t_tape_bytes q_t_world q_t_world_kind q_t_world_grief q_t_world_bears q_t_world_rota u.1 u.2.1 u.2.2) u) t) A) args s 0 0 A
def B_X1_readBarrow_0   (f : Nat) (w_t : s_R) (w_t_tape : s_T) (w_t_world : s_W)  : Option (Int32 × s_R × s_T × s_W) := if w_t.1 = 0 then ((M_X1_readNumber f (1, w_t.2.1, w_t.2.2) w_t_tape 1).bind (fun u20 => if u20.1 = 0 then (some (0, u20.2.1, u20.2.2, w_t_world)) else ((M_X1_readNumber f u20.2.1 u20.2.2 0).bind (fun u44 => if u44.1 = 0 then (some (0, u44.2.1, u44.2.2, (w_t_world.1, w_t_world.2.1, u20.2.2.2.2.2.2.1, w_t_world.2.2.2.1, w_t_world.2.2.2.2.1, w_t_world.2.2.2.2.2.1, w_t_world.2.2.2.2.2.2.1, w_t_world.2.2.2.2.2.2.2.1, w_t_world.2.2.2.2.2.2.2.2.1, w_t_world.2.2.2.2.2.2.2.2.2.1, w_t_world.2.2.2.2.2.2.2.2.2.2))) else ((M_X1_readStop f u44.2.1 u44.2.2).bind (fun u67 => gq_b u67.1 (some (u67.1, u67.2.1, u67.2.2, (w_t_world.1, w_t_world.2.1, u20.2.2.2.2.2.2.1, u44.2.2.2.2.2.2.1, w_t_world.2.2.2.2.1, w_t_world.2.2.2.2.2.1, w_t_world.2.2.2.2.2.2.1, w_t_world.2.2.2.2.2.2.2.1, w_t_world.2.2.2.2.2.2.2.2.1, w_t_world.2.2.2.2.2.2.2.2.2.1, w_t_world.2.2.2.2.2.2.2.2.2.2))))))))) else ((M_X1_refuse w_t 4).bind (fun u9 => gq_b u9.1 (some (u9.1, u9.2, w_t_tape, w_t_world))))
set_option maxHeartbeats 4000000 in
set_option maxRecDepth 100000 in
theorem b_X1_readBarrow_0 {p : Program} {l : Launch} {e : Env} {s : State} {m : MethodId} {args : Array Value} {below : List Frame} {meth : Method} {c : Code} {D : va_G} {cy : Nat → ClassId} {A : Nat → Prop} {q_t : Nat} {q_t_tape : Nat} {q_t_tape_bytes : Nat} {q_t_world : Nat} {q_t_world_kind : Nat} {q_t_world_grief : Nat} {q_t_world_bears : Nat} {q_t_world_rota : Nat} {res : Int32 × s_R × s_T × s_W}  {f : Nat} {w_t : s_R} {w_t_tape : s_T} {w_t_world : s_W}  (C0 : cx_C cX1_readBarrow ((some .boolean)) 1 RX1 (.code yX1_readBarrow cX1_readBarrow 1 ((some .boolean)) :: wg_L) p s m args meth c D cy A)  (h : B_X1_readBarrow_0 f w_t w_t_tape w_t_world = some res) {H : Heap} {locs : List Loc} {ls : Array Slot} (hP : va_P D vwCl (wc_X1_readBarrow cy q_t q_t_tape q_t_tape_bytes q_t_world q_t_world_kind q_t_world_grief q_t_world_bears q_t_world_rota w_t w_t_tape w_t_world) H) (hD : va_D A (wc_X1_readBarrow cy q_t q_t_tape q_t_tape_bytes q_t_world q_t_world_kind q_t_world_grief q_t_world_bears q_t_world_rota w_t w_t_tape w_t_world)) (hS : va_S A s.heap H locs) (hl : lv_has ls 1 [(0, .ref q_t)]) : W p l e rm_X1_readBarrow s m args below meth c H locs 0 0 (qq_X1_readBarrow below args s D cy A q_t q_t_tape q_t_tape_bytes q_t_world q_t_world_kind q_t_world_grief q_t_world_bears q_t_world_rota res) (F0 m 0 ls []) := by
  obtain ⟨hx, hb, hr, hml, hown, hts, hK, hlocks, hA⟩ := id C0
  unfold B_X1_readBarrow_0 at h
  refine lv_aload_n hx hb dX1_readBarrow_0 rfl (lv_at hl 0 rfl) ?_
  refine va_get (D := D) (ci := 1) (v := .int w_t.1) (C := RX1) (T := TX1) (N := 5) hx hb hts (fun w hw => List.mem_cons_of_mem _ (uw_X1 w hw)) hown hK.1 hP 0 rfl rfl 2 (by decide) (hts _ (List.mem_cons_of_mem _ k_149)) (fun _ h9 => h9) rfl dX1_readBarrow_1 ?_
  refine lv_if_eq (tgt := 13) hx hb dX1_readBarrow_4 (by decide) (fun c4 => ?_) (fun c4 => ?_)
  · replace h := it_p c4 h
    refine lv_aload_n hx hb dX1_readBarrow_13 rfl (lv_at hl 0 rfl) ?_
    refine lv_iconst (v := 1) hx hb dX1_readBarrow_14 (by decide) ?_
    refine va_put (D := D) (ci := 1) (v := .int 1) (ty := .boolean) (C := RX1) (T := TX1) (N := 5) hx hb hts (fun w hw => List.mem_cons_of_mem _ (uw_X1 w hw)) tyX1 tyX1_ok nmX1 hown hK.1 hP hD hS 0 rfl rfl 2 (by decide) (hts _ (List.mem_cons_of_mem _ k_149)) (fun _ h9 => h9) rfl (by decide +kernel) rfl rfl (Nat.le_of_ble_eq_true rfl) dX1_readBarrow_15 (fun H locs hP hD hS => ?_)
    have hP : va_P D vwCl (wc_X1_readBarrow cy q_t q_t_tape q_t_tape_bytes q_t_world q_t_world_kind q_t_world_grief q_t_world_bears q_t_world_rota (1, w_t.2.1, w_t.2.2) w_t_tape w_t_world) H := hP
    have hD : va_D A (wc_X1_readBarrow cy q_t q_t_tape q_t_tape_bytes q_t_world q_t_world_kind q_t_world_grief q_t_world_bears q_t_world_rota (1, w_t.2.1, w_t.2.2) w_t_tape w_t_world) := hD
    refine lv_aload_n hx hb dX1_readBarrow_18 rfl (lv_at hl 0 rfl) ?_
    refine lv_iconst (v := 1) hx hb dX1_readBarrow_19 (by decide) ?_
    obtain ⟨u20, hc20, h⟩ := bd_d h
    have hPc := hP.sub (ws' := wc_X1_readNumber cy q_t q_t_tape q_t_tape_bytes q_t_world (1, w_t.2.1, w_t.2.2) w_t_tape) [0, 1, 2] rfl
    have hDc := hD.sub (ws' := wc_X1_readNumber cy q_t q_t_tape q_t_tape_bytes q_t_world (1, w_t.2.1, w_t.2.2) w_t_tape) [0, 1, 2] (by decide) rfl
    refine cl_i (fun (u : s_R × s_T) => wc_X1_readBarrow cy q_t q_t_tape q_t_tape_bytes q_t_world q_t_world_kind q_t_world_grief q_t_world_bears q_t_world_rota u.1 u.2 w_t_world) (va_runV (As := [.int 1]) (rest := []) (C := RX1) ⟨hx, hb, hml, hown, hts⟩ (c_X1_readNumber l D cy H.size q_t q_t_tape q_t_tape_bytes q_t_world (1, w_t.2.1, w_t.2.2) w_t_tape 1 hc20) ⟨callB_of 1 hts (wg_in k_352) rfl rfl rfl (hts _ (List.mem_cons_of_mem _ k_5)) (hts _ (List.mem_cons_of_mem _ k_349)) (by decide +kernel) ⟨by decide, by decide⟩, (hts _ (List.mem_cons_of_mem _ k_351)), (hts _ (List.mem_cons_of_mem _ ks_7))⟩ ⟨st_blind, va_recv hK.1 hPc (ci := 1) (q0 := 0) rfl rfl, fun U hU hW => st_pre hK hPc hDc hU hW⟩ rfl rfl hl.1 rfl (lv_room (Nat.le_of_ble_eq_true rfl)) dX1_readBarrow_20 ⟨by decide, by decide⟩) hP hD hS hA [0, 1, 2] [3, 4, 5, 6, 7] [5, 6, 7, 0, 1, 2, 3, 4] rfl rfl (by decide) (by decide) (by decide) (fun _ => rfl) (fun r u H locs hw hP hD hS => ?_)
    obtain ⟨rfl, rfl⟩ := hw
    have hP : va_P D vwCl (wc_X1_readBarrow cy q_t q_t_tape q_t_tape_bytes q_t_world q_t_world_kind q_t_world_grief q_t_world_bears q_t_world_rota u20.2.1 u20.2.2 w_t_world) H := hP
    have hD : va_D A (wc_X1_readBarrow cy q_t q_t_tape q_t_tape_bytes q_t_world q_t_world_kind q_t_world_grief q_t_world_bears q_t_world_rota u20.2.1 u20.2.2 w_t_world) := hD
    refine lv_if_ne (tgt := 28) hx hb dX1_readBarrow_23 (by decide) (fun c23 => ?_) (fun c23 => ?_)
    · replace h := it_n c23 h
      refine lv_aload_n hx hb dX1_readBarrow_28 rfl (lv_at hl 0 rfl) ?_
      refine va_get (D := D) (ci := 1) (v := .ref q_t_world) (C := RX1) (T := TX1) (N := 5) hx hb hts (fun w hw => List.mem_cons_of_mem _ (uw_X1 w hw)) hown hK.1 hP 0 rfl rfl 1 (by decide) (hts _ (List.mem_cons_of_mem _ k_148)) (fun _ h9 => h9) rfl dX1_readBarrow_29 ?_
      refine lv_aload_n hx hb dX1_readBarrow_32 rfl (lv_at hl 0 rfl) ?_
      refine va_get (D := D) (ci := 1) (v := .ref q_t_tape) (C := RX1) (T := TX1) (N := 5) hx hb hts (fun w hw => List.mem_cons_of_mem _ (uw_X1 w hw)) hown hK.1 hP 0 rfl rfl 0 (by decide) (hts _ (List.mem_cons_of_mem _ k_147)) (fun _ h9 => h9) rfl dX1_readBarrow_33 ?_
      refine va_get (D := D) (ci := 4) (v := .int u20.2.2.2.2.2.2.1) (C := RX4) (T := TX4) (N := 6) hx hb hts (fun w hw => List.mem_cons_of_mem _ (uw_X4 w hw)) hown hK.1 hP 1 rfl rfl 5 (by decide) (hts _ (List.mem_cons_of_mem _ k_126)) (fun _ h9 => h9) rfl dX1_readBarrow_36 ?_
      refine va_put (D := D) (ci := 5) (v := .int u20.2.2.2.2.2.2.1) (ty := .int) (C := RX5) (T := TX5) (N := 11) hx hb hts (fun w hw => List.mem_cons_of_mem _ (uw_X5 w hw)) tyX5 tyX5_ok nmX5 hown hK.1 hP hD hS 3 rfl rfl 6 (by decide) (hts _ (List.mem_cons_of_mem _ k_48)) (fun _ h9 => h9) rfl (by decide +kernel) rfl rfl (Nat.le_of_ble_eq_true rfl) dX1_readBarrow_39 (fun H locs hP hD hS => ?_)
      have hP : va_P D vwCl (wc_X1_readBarrow cy q_t q_t_tape q_t_tape_bytes q_t_world q_t_world_kind q_t_world_grief q_t_world_bears q_t_world_rota u20.2.1 u20.2.2 (w_t_world.1, w_t_world.2.1, u20.2.2.2.2.2.2.1, w_t_world.2.2.2.1, w_t_world.2.2.2.2.1, w_t_world.2.2.2.2.2.1, w_t_world.2.2.2.2.2.2.1, w_t_world.2.2.2.2.2.2.2.1, w_t_world.2.2.2.2.2.2.2.2.1, w_t_world.2.2.2.2.2.2.2.2.2.1, w_t_world.2.2.2.2.2.2.2.2.2.2)) H := hP
      have hD : va_D A (wc_X1_readBarrow cy q_t q_t_tape q_t_tape_bytes q_t_world q_t_world_kind q_t_world_grief q_t_world_bears q_t_world_rota u20.2.1 u20.2.2 (w_t_world.1, w_t_world.2.1, u20.2.2.2.2.2.2.1, w_t_world.2.2.2.1, w_t_world.2.2.2.2.1, w_t_world.2.2.2.2.2.1, w_t_world.2.2.2.2.2.2.1, w_t_world.2.2.2.2.2.2.2.1, w_t_world.2.2.2.2.2.2.2.2.1, w_t_world.2.2.2.2.2.2.2.2.2.1, w_t_world.2.2.2.2.2.2.2.2.2.2)) := hD
      refine lv_aload_n hx hb dX1_readBarrow_42 rfl (lv_at hl 0 rfl) ?_
      refine lv_iconst (v := 0) hx hb dX1_readBarrow_43 (by decide) ?_
      obtain ⟨u44, hc44, h⟩ := bd_d h
      have hPc := hP.sub (ws' := wc_X1_readNumber cy q_t q_t_tape q_t_tape_bytes q_t_world u20.2.1 u20.2.2) [0, 1, 2] rfl
      have hDc := hD.sub (ws' := wc_X1_readNumber cy q_t q_t_tape q_t_tape_bytes q_t_world u20.2.1 u20.2.2) [0, 1, 2] (by decide) rfl
      refine cl_i (fun (u : s_R × s_T) => wc_X1_readBarrow cy q_t q_t_tape q_t_tape_bytes q_t_world q_t_world_kind q_t_world_grief q_t_world_bears q_t_world_rota u.1 u.2 (w_t_world.1, w_t_world.2.1, u20.2.2.2.2.2.2.1, w_t_world.2.2.2.1, w_t_world.2.2.2.2.1, w_t_world.2.2.2.2.2.1, w_t_world.2.2.2.2.2.2.1, w_t_world.2.2.2.2.2.2.2.1, w_t_world.2.2.2.2.2.2.2.2.1, w_t_world.2.2.2.2.2.2.2.2.2.1, w_t_world.2.2.2.2.2.2.2.2.2.2)) (va_runV (As := [.int 0]) (rest := []) (C := RX1) ⟨hx, hb, hml, hown, hts⟩ (c_X1_readNumber l D cy H.size q_t q_t_tape q_t_tape_bytes q_t_world u20.2.1 u20.2.2 0 hc44) ⟨callB_of 1 hts (wg_in k_352) rfl rfl rfl (hts _ (List.mem_cons_of_mem _ k_5)) (hts _ (List.mem_cons_of_mem _ k_349)) (by decide +kernel) ⟨by decide, by decide⟩, (hts _ (List.mem_cons_of_mem _ k_351)), (hts _ (List.mem_cons_of_mem _ ks_7))⟩ ⟨st_blind, va_recv hK.1 hPc (ci := 1) (q0 := 0) rfl rfl, fun U hU hW => st_pre hK hPc hDc hU hW⟩ rfl rfl hl.1 rfl (lv_room (Nat.le_of_ble_eq_true rfl)) dX1_readBarrow_44 ⟨by decide, by decide⟩) hP hD hS hA [0, 1, 2] [3, 4, 5, 6, 7] [5, 6, 7, 0, 1, 2, 3, 4] rfl rfl (by decide) (by decide) (by decide) (fun _ => rfl) (fun r u H locs hw hP hD hS => ?_)
      obtain ⟨rfl, rfl⟩ := hw
      have hP : va_P D vwCl (wc_X1_readBarrow cy q_t q_t_tape q_t_tape_bytes q_t_world q_t_world_kind q_t_world_grief q_t_world_bears q_t_world_rota u44.2.1 u44.2.2 (w_t_world.1, w_t_world.2.1, u20.2.2.2.2.2.2.1, w_t_world.2.2.2.1, w_t_world.2.2.2.2.1, w_t_world.2.2.2.2.2.1, w_t_world.2.2.2.2.2.2.1, w_t_world.2.2.2.2.2.2.2.1, w_t_world.2.2.2.2.2.2.2.2.1, w_t_world.2.2.2.2.2.2.2.2.2.1, w_t_world.2.2.2.2.2.2.2.2.2.2)) H := hP
      have hD : va_D A (wc_X1_readBarrow cy q_t q_t_tape q_t_tape_bytes q_t_world q_t_world_kind q_t_world_grief q_t_world_bears q_t_world_rota u44.2.1 u44.2.2 (w_t_world.1, w_t_world.2.1, u20.2.2.2.2.2.2.1, w_t_world.2.2.2.1, w_t_world.2.2.2.2.1, w_t_world.2.2.2.2.2.1, w_t_world.2.2.2.2.2.2.1, w_t_world.2.2.2.2.2.2.2.1, w_t_world.2.2.2.2.2.2.2.2.1, w_t_world.2.2.2.2.2.2.2.2.2.1, w_t_world.2.2.2.2.2.2.2.2.2.2)) := hD
      refine lv_if_ne (tgt := 52) hx hb dX1_readBarrow_47 (by decide) (fun c47 => ?_) (fun c47 => ?_)
      · replace h := it_n c47 h
        refine lv_aload_n hx hb dX1_readBarrow_52 rfl (lv_at hl 0 rfl) ?_
        refine va_get (D := D) (ci := 1) (v := .ref q_t_world) (C := RX1) (T := TX1) (N := 5) hx hb hts (fun w hw => List.mem_cons_of_mem _ (uw_X1 w hw)) hown hK.1 hP 0 rfl rfl 1 (by decide) (hts _ (List.mem_cons_of_mem _ k_148)) (fun _ h9 => h9) rfl dX1_readBarrow_53 ?_
        refine lv_aload_n hx hb dX1_readBarrow_56 rfl (lv_at hl 0 rfl) ?_
        refine va_get (D := D) (ci := 1) (v := .ref q_t_tape) (C := RX1) (T := TX1) (N := 5) hx hb hts (fun w hw => List.mem_cons_of_mem _ (uw_X1 w hw)) hown hK.1 hP 0 rfl rfl 0 (by decide) (hts _ (List.mem_cons_of_mem _ k_147)) (fun _ h9 => h9) rfl dX1_readBarrow_57 ?_
        refine va_get (D := D) (ci := 4) (v := .int u44.2.2.2.2.2.2.1) (C := RX4) (T := TX4) (N := 6) hx hb hts (fun w hw => List.mem_cons_of_mem _ (uw_X4 w hw)) hown hK.1 hP 1 rfl rfl 5 (by decide) (hts _ (List.mem_cons_of_mem _ k_126)) (fun _ h9 => h9) rfl dX1_readBarrow_60 ?_
        refine va_put (D := D) (ci := 5) (v := .int u44.2.2.2.2.2.2.1) (ty := .int) (C := RX5) (T := TX5) (N := 11) hx hb hts (fun w hw => List.mem_cons_of_mem _ (uw_X5 w hw)) tyX5 tyX5_ok nmX5 hown hK.1 hP hD hS 3 rfl rfl 7 (by decide) (hts _ (List.mem_cons_of_mem _ k_51)) (fun _ h9 => h9) rfl (by decide +kernel) rfl rfl (Nat.le_of_ble_eq_true rfl) dX1_readBarrow_63 (fun H locs hP hD hS => ?_)
        have hP : va_P D vwCl (wc_X1_readBarrow cy q_t q_t_tape q_t_tape_bytes q_t_world q_t_world_kind q_t_world_grief q_t_world_bears q_t_world_rota u44.2.1 u44.2.2 (w_t_world.1, w_t_world.2.1, u20.2.2.2.2.2.2.1, u44.2.2.2.2.2.2.1, w_t_world.2.2.2.2.1, w_t_world.2.2.2.2.2.1, w_t_world.2.2.2.2.2.2.1, w_t_world.2.2.2.2.2.2.2.1, w_t_world.2.2.2.2.2.2.2.2.1, w_t_world.2.2.2.2.2.2.2.2.2.1, w_t_world.2.2.2.2.2.2.2.2.2.2)) H := hP
        have hD : va_D A (wc_X1_readBarrow cy q_t q_t_tape q_t_tape_bytes q_t_world q_t_world_kind q_t_world_grief q_t_world_bears q_t_world_rota u44.2.1 u44.2.2 (w_t_world.1, w_t_world.2.1, u20.2.2.2.2.2.2.1, u44.2.2.2.2.2.2.1, w_t_world.2.2.2.2.1, w_t_world.2.2.2.2.2.1, w_t_world.2.2.2.2.2.2.1, w_t_world.2.2.2.2.2.2.2.1, w_t_world.2.2.2.2.2.2.2.2.1, w_t_world.2.2.2.2.2.2.2.2.2.1, w_t_world.2.2.2.2.2.2.2.2.2.2)) := hD
        refine lv_aload_n hx hb dX1_readBarrow_66 rfl (lv_at hl 0 rfl) ?_
        obtain ⟨u67, hc67, h⟩ := bd_d h
        have hPc := hP.sub (ws' := wc_X1_readStop cy q_t q_t_tape q_t_tape_bytes q_t_world u44.2.1 u44.2.2) [0, 1, 2] rfl
        have hDc := hD.sub (ws' := wc_X1_readStop cy q_t q_t_tape q_t_tape_bytes q_t_world u44.2.1 u44.2.2) [0, 1, 2] (by decide) rfl
        refine cl_i (fun (u : s_R × s_T) => wc_X1_readBarrow cy q_t q_t_tape q_t_tape_bytes q_t_world q_t_world_kind q_t_world_grief q_t_world_bears q_t_world_rota u.1 u.2 (w_t_world.1, w_t_world.2.1, u20.2.2.2.2.2.2.1, u44.2.2.2.2.2.2.1, w_t_world.2.2.2.2.1, w_t_world.2.2.2.2.2.1, w_t_world.2.2.2.2.2.2.1, w_t_world.2.2.2.2.2.2.2.1, w_t_world.2.2.2.2.2.2.2.2.1, w_t_world.2.2.2.2.2.2.2.2.2.1, w_t_world.2.2.2.2.2.2.2.2.2.2)) (va_runV (As := []) (rest := []) (C := RX1) ⟨hx, hb, hml, hown, hts⟩ (c_X1_readStop l D cy H.size q_t q_t_tape q_t_tape_bytes q_t_world u44.2.1 u44.2.2 hc67) ⟨callB_of 0 hts (wg_in k_356) rfl rfl rfl (hts _ (List.mem_cons_of_mem _ k_5)) (hts _ (List.mem_cons_of_mem _ k_353)) (by decide +kernel) ⟨by decide, by decide⟩, (hts _ (List.mem_cons_of_mem _ k_355)), (hts _ (List.mem_cons_of_mem _ ks_8))⟩ ⟨st_blind, va_recv hK.1 hPc (ci := 1) (q0 := 0) rfl rfl, fun U hU hW => st_pre hK hPc hDc hU hW⟩ rfl rfl hl.1 rfl (lv_room (Nat.le_of_ble_eq_true rfl)) dX1_readBarrow_67 ⟨by decide, by decide⟩) hP hD hS hA [0, 1, 2] [3, 4, 5, 6, 7] [5, 6, 7, 0, 1, 2, 3, 4] rfl rfl (by decide) (by decide) (by decide) (fun _ => rfl) (fun r u H locs hw hP hD hS => ?_)
        obtain ⟨rfl, rfl⟩ := hw
        have hP : va_P D vwCl (wc_X1_readBarrow cy q_t q_t_tape q_t_tape_bytes q_t_world q_t_world_kind q_t_world_grief q_t_world_bears q_t_world_rota u67.2.1 u67.2.2 (w_t_world.1, w_t_world.2.1, u20.2.2.2.2.2.2.1, u44.2.2.2.2.2.2.1, w_t_world.2.2.2.2.1, w_t_world.2.2.2.2.2.1, w_t_world.2.2.2.2.2.2.1, w_t_world.2.2.2.2.2.2.2.1, w_t_world.2.2.2.2.2.2.2.2.1, w_t_world.2.2.2.2.2.2.2.2.2.1, w_t_world.2.2.2.2.2.2.2.2.2.2)) H := hP
        have hD : va_D A (wc_X1_readBarrow cy q_t q_t_tape q_t_tape_bytes q_t_world q_t_world_kind q_t_world_grief q_t_world_bears q_t_world_rota u67.2.1 u67.2.2 (w_t_world.1, w_t_world.2.1, u20.2.2.2.2.2.2.1, u44.2.2.2.2.2.2.1, w_t_world.2.2.2.2.1, w_t_world.2.2.2.2.2.1, w_t_world.2.2.2.2.2.2.1, w_t_world.2.2.2.2.2.2.2.1, w_t_world.2.2.2.2.2.2.2.2.1, w_t_world.2.2.2.2.2.2.2.2.2.1, w_t_world.2.2.2.2.2.2.2.2.2.2)) := hD
        obtain ⟨hz1, h⟩ := gq_d h
        obtain rfl := Option.some.inj h
        exact W.zret (v := u67.1) hx hb hr hz1.1 (fun tt ht hW => ⟨⟨u67.1, (u67.2.1, u67.2.2, (w_t_world.1, w_t_world.2.1, u20.2.2.2.2.2.2.1, u44.2.2.2.2.2.2.1, w_t_world.2.2.2.2.1, w_t_world.2.2.2.2.2.1, w_t_world.2.2.2.2.2.2.1, w_t_world.2.2.2.2.2.2.2.1, w_t_world.2.2.2.2.2.2.2.2.1, w_t_world.2.2.2.2.2.2.2.2.2.1, w_t_world.2.2.2.2.2.2.2.2.2.2)), rfl, ⟨rfl, rfl⟩, by rw [ht]; exact hP, kk_warm hW hK, hD⟩, hS.F ht⟩) hS.2.2 dX1_readBarrow_70
      · replace h := it_p c47 h
        refine lv_iconst (v := 0) hx hb dX1_readBarrow_50 (by decide) ?_
        obtain rfl := Option.some.inj h
        exact W.zret (v := 0) hx hb hr (by decide) (fun tt ht hW => ⟨⟨0, (u44.2.1, u44.2.2, (w_t_world.1, w_t_world.2.1, u20.2.2.2.2.2.2.1, w_t_world.2.2.2.1, w_t_world.2.2.2.2.1, w_t_world.2.2.2.2.2.1, w_t_world.2.2.2.2.2.2.1, w_t_world.2.2.2.2.2.2.2.1, w_t_world.2.2.2.2.2.2.2.2.1, w_t_world.2.2.2.2.2.2.2.2.2.1, w_t_world.2.2.2.2.2.2.2.2.2.2)), rfl, ⟨rfl, rfl⟩, by rw [ht]; exact hP, kk_warm hW hK, hD⟩, hS.F ht⟩) hS.2.2 dX1_readBarrow_51
    · replace h := it_p c23 h
      refine lv_iconst (v := 0) hx hb dX1_readBarrow_26 (by decide) ?_
      obtain rfl := Option.some.inj h
      exact W.zret (v := 0) hx hb hr (by decide) (fun tt ht hW => ⟨⟨0, (u20.2.1, u20.2.2, w_t_world), rfl, ⟨rfl, rfl⟩, by rw [ht]; exact hP, kk_warm hW hK, hD⟩, hS.F ht⟩) hS.2.2 dX1_readBarrow_27
  · replace h := it_n c4 h
    refine lv_aload_n hx hb dX1_readBarrow_7 rfl (lv_at hl 0 rfl) ?_
    refine lv_iconst (v := 4) hx hb dX1_readBarrow_8 (by decide) ?_
    obtain ⟨u9, hc9, h⟩ := bd_d h
    have hPc := hP.sub (ws' := wc_X1_refuse cy q_t q_t_tape q_t_world w_t) [0] rfl
    have hDc := hD.sub (ws' := wc_X1_refuse cy q_t q_t_tape q_t_world w_t) [0] (by decide) rfl
    refine cl_i (fun (u : s_R) => wc_X1_readBarrow cy q_t q_t_tape q_t_tape_bytes q_t_world q_t_world_kind q_t_world_grief q_t_world_bears q_t_world_rota u w_t_tape w_t_world) (va_runV (As := [.int 4]) (rest := []) (C := RX1) ⟨hx, hb, hml, hown, hts⟩ (c_X1_refuse l D cy H.size q_t q_t_tape q_t_world w_t 4 hc9) ⟨callB_of 1 hts (wg_in k_282) rfl rfl rfl (hts _ (List.mem_cons_of_mem _ k_5)) (hts _ (List.mem_cons_of_mem _ k_279)) (by decide +kernel) ⟨by decide, by decide⟩, (hts _ (List.mem_cons_of_mem _ k_281)), (hts _ (List.mem_cons_of_mem _ ks_4))⟩ ⟨st_blind, va_recv hK.1 hPc (ci := 1) (q0 := 0) rfl rfl, fun U hU hW => st_pre hK hPc hDc hU hW⟩ rfl rfl hl.1 rfl (lv_room (Nat.le_of_ble_eq_true rfl)) dX1_readBarrow_9 ⟨by decide, by decide⟩) hP hD hS hA [0] [1, 2, 3, 4, 5, 6, 7] [7, 0, 1, 2, 3, 4, 5, 6] rfl rfl (by decide) (by decide) (by decide) (fun _ => rfl) (fun r u H locs hw hP hD hS => ?_)
    obtain ⟨rfl, rfl⟩ := hw
    have hP : va_P D vwCl (wc_X1_readBarrow cy q_t q_t_tape q_t_tape_bytes q_t_world q_t_world_kind q_t_world_grief q_t_world_bears q_t_world_rota u9.2 w_t_tape w_t_world) H := hP
    have hD : va_D A (wc_X1_readBarrow cy q_t q_t_tape q_t_tape_bytes q_t_world q_t_world_kind q_t_world_grief q_t_world_bears q_t_world_rota u9.2 w_t_tape w_t_world) := hD
    obtain ⟨hz2, h⟩ := gq_d h
    obtain rfl := Option.some.inj h
    exact W.zret (v := u9.1) hx hb hr hz2.1 (fun tt ht hW => ⟨⟨u9.1, (u9.2, w_t_tape, w_t_world), rfl, ⟨rfl, rfl⟩, by rw [ht]; exact hP, kk_warm hW hK, hD⟩, hS.F ht⟩) hS.2.2 dX1_readBarrow_12
def M_X1_readBarrow   (f : Nat) (w_t : s_R) (w_t_tape : s_T) (w_t_world : s_W)  : Option (Int32 × s_R × s_T × s_W) := B_X1_readBarrow_0 f w_t w_t_tape w_t_world
set_option maxHeartbeats 4000000 in
set_option maxRecDepth 100000 in
theorem c_X1_readBarrow (l : Launch) (D : va_G) (cy : Nat → ClassId) (sz : Nat) (q_t : Nat) (q_t_tape : Nat) (q_t_tape_bytes : Nat) (q_t_world : Nat) (q_t_world_kind : Nat) (q_t_world_grief : Nat) (q_t_world_bears : Nat) (q_t_world_rota : Nat) (w_t : s_R) (w_t_tape : s_T) (w_t_world : s_W)  {f : Nat} {res : Int32 × s_R × s_T × s_W} (h : M_X1_readBarrow f w_t w_t_tape w_t_world = some res) : ct_i l yX1_readBarrow (.code yX1_readBarrow cX1_readBarrow 1 ((some .boolean)) :: wg_L) rm_X1_readBarrow D cy sz (wc_X1_readBarrow cy q_t q_t_tape q_t_tape_bytes q_t_world q_t_world_kind q_t_world_grief q_t_world_bears q_t_world_rota w_t w_t_tape w_t_world) [.ref q_t] (fun r (u : s_R × s_T × s_W) => r = res.1 ∧ u = res.2) (fun (u : s_R × s_T × s_W) => wc_X1_readBarrow cy q_t q_t_tape q_t_tape_bytes q_t_world q_t_world_kind q_t_world_grief q_t_world_bears q_t_world_rota u.1 u.2.1 u.2.2) := by
  refine Met.ofW (cc := cX1_readBarrow) (maxL := 1) (ret := (some .boolean)) (by decide) rfl ?_
  intro p e s m args below meth c s₁ B hml hv
  obtain ⟨rfl, hsz, hP, hK, hD0⟩ := hv
  subst hsz
  have hD := hD0.self (sz := s.heap.size)
  have hl := lv_entry ([.ref q_t]) (n := 1) (Nat.le_of_ble_eq_true rfl)
  rw [lg_entry_eq]
  have C0 : cx_C cX1_readBarrow ((some .boolean)) 1 RX1 (.code yX1_readBarrow cX1_readBarrow 1 ((some .boolean)) :: wg_L) p s m [.ref q_t].toArray meth c D cy (va_A (wc_X1_readBarrow cy q_t q_t_tape q_t_tape_bytes q_t_world q_t_world_kind q_t_world_grief q_t_world_bears q_t_world_rota w_t w_t_tape w_t_world) s.heap.size) := ⟨B.exec, B.bytes, B.returns, hml, findClass_of_methodNamed B.named, atoms_spec (ws := .code yX1_readBarrow cX1_readBarrow 1 ((some .boolean)) :: wg_L) B.pre, hK, B.notSynchronized, fun q h => Or.inr h⟩
  exact b_X1_readBarrow_0 C0 h hP hD va_S.rf (lv_sub hl [0] rfl)
/-! ### BarrowGrief$Reader.readOne(I)Z -/
abbrev wc_X1_readOne (cy : Nat → ClassId) (q_t q_t_world q_t_world_kind q_t_world_grief q_t_world_bears q_t_world_rota q_t_tape q_t_tape_bytes : Nat) (w_t : s_R) (w_t_world : s_W) (w_t_tape : s_T) : va_W := [(q_t, .inr (1, [.ref q_t_tape, .ref q_t_world, .int w_t.1, .int w_t.2.1, .int w_t.2.2])), (q_t_world, .inr (5, [.ref q_t_world_kind, .ref q_t_world_grief, .ref q_t_world_bears, .ref q_t_world_rota, .int w_t_world.1, .int w_t_world.2.1, .int w_t_world.2.2.1, .int w_t_world.2.2.2.1, .int w_t_world.2.2.2.2.1, .int w_t_world.2.2.2.2.2.1, .int w_t_world.2.2.2.2.2.2.1])), (q_t_world_kind, .inl (cy 1, 5, .inl w_t_world.2.2.2.2.2.2.2.1)), (q_t_world_grief, .inl (cy 1, 5, .inl w_t_world.2.2.2.2.2.2.2.2.1)), (q_t_world_bears, .inl (cy 1, 5, .inl w_t_world.2.2.2.2.2.2.2.2.2.1)), (q_t_world_rota, .inl (cy 1, 8, .inl w_t_world.2.2.2.2.2.2.2.2.2.2)), (q_t_tape, .inr (4, [.ref q_t_tape_bytes, .int w_t_tape.1, .int w_t_tape.2.1, .int w_t_tape.2.2.1, .int w_t_tape.2.2.2.1, .int w_t_tape.2.2.2.2.1])), (q_t_tape_bytes, .inl (cy 0, 160, .inl w_t_tape.2.2.2.2.2))]
abbrev rm_X1_readOne : Room := { frames := 3, cells := 0, slots := 0, locals := 63 }
abbrev qq_X1_readOne (below : List Frame) (args : Array Value) (s : State) (D : va_G) (cy : Nat → ClassId) (A : Nat → Prop) (q_t : Nat) (q_t_world : Nat) (q_t_world_kind : Nat) (q_t_world_grief : Nat) (q_t_world_bears : Nat) (q_t_world_rota : Nat) (q_t_tape : Nat) (q_t_tape_bytes : Nat) (res : Int32 × s_R × s_W × s_T) : State → Prop := MQ below (va_Qi (fun r (u : s_R × s_W × s_T) => r = res.1 ∧ u = res.2) (fun u t => st_B D cy A ((fun (u : s_R × s_W × s_T) => wc_X1_readOne cy q_t q_t_world q_t_world_kind q_t_world_grief q_t_world_bears q_t_world_rota q_t_tape q_t_tape_bytes u.1 u.2.1 u.2.2) u) t) A) args s 0 0 A
def B_X1_readOne_0   (f : Nat) (w_t : s_R) (w_t_world : s_W) (w_t_tape : s_T) (v1 : Int32) : Option (Int32 × s_R × s_W × s_T) := if w_t_world.1 < 5 then ((M_X1_readNumber f w_t w_t_tape 0).bind (fun u19 => if u19.1 = 0 then (some (0, u19.2.1, w_t_world, u19.2.2)) else ((M_X1_readNumber f u19.2.1 u19.2.2 1).bind (fun u37 => if u37.1 = 0 then (some (0, u37.2.1, w_t_world, u37.2.2)) else ((M_X5_addOne w_t_world v1 u19.2.2.2.2.2.2.1 u37.2.2.2.2.2.2.1).bind (fun u58 => (M_X1_readStop f u37.2.1 u37.2.2).bind (fun u62 => gq_b u62.1 (some (u62.1, u62.2.1, u58, u62.2.2))))))))) else ((M_X1_refuse w_t 5).bind (fun u13 => gq_b u13.1 (some (u13.1, u13.2, w_t_world, w_t_tape))))
set_option maxHeartbeats 4000000 in
set_option maxRecDepth 100000 in
theorem b_X1_readOne_0 {p : Program} {l : Launch} {e : Env} {s : State} {m : MethodId} {args : Array Value} {below : List Frame} {meth : Method} {c : Code} {D : va_G} {cy : Nat → ClassId} {A : Nat → Prop} {q_t : Nat} {q_t_world : Nat} {q_t_world_kind : Nat} {q_t_world_grief : Nat} {q_t_world_bears : Nat} {q_t_world_rota : Nat} {q_t_tape : Nat} {q_t_tape_bytes : Nat} {res : Int32 × s_R × s_W × s_T}  {f : Nat} {w_t : s_R} {w_t_world : s_W} {w_t_tape : s_T} {v1 : Int32} (C0 : cx_C cX1_readOne ((some .boolean)) 3 RX1 (.code yX1_readOne cX1_readOne 3 ((some .boolean)) :: wg_L) p s m args meth c D cy A)  (h : B_X1_readOne_0 f w_t w_t_world w_t_tape v1 = some res) {H : Heap} {locs : List Loc} {ls : Array Slot} (hP : va_P D vwCl (wc_X1_readOne cy q_t q_t_world q_t_world_kind q_t_world_grief q_t_world_bears q_t_world_rota q_t_tape q_t_tape_bytes w_t w_t_world w_t_tape) H) (hD : va_D A (wc_X1_readOne cy q_t q_t_world q_t_world_kind q_t_world_grief q_t_world_bears q_t_world_rota q_t_tape q_t_tape_bytes w_t w_t_world w_t_tape)) (hS : va_S A s.heap H locs) (hl : lv_has ls 3 [(0, .ref q_t), (1, .int v1)]) : W p l e rm_X1_readOne s m args below meth c H locs 0 0 (qq_X1_readOne below args s D cy A q_t q_t_world q_t_world_kind q_t_world_grief q_t_world_bears q_t_world_rota q_t_tape q_t_tape_bytes res) (F0 m 0 ls []) := by
  obtain ⟨hx, hb, hr, hml, hown, hts, hK, hlocks, hA⟩ := id C0
  unfold B_X1_readOne_0 at h
  refine lv_aload_n hx hb dX1_readOne_0 rfl (lv_at hl 0 rfl) ?_
  refine va_get (D := D) (ci := 1) (v := .ref q_t_world) (C := RX1) (T := TX1) (N := 5) hx hb hts (fun w hw => List.mem_cons_of_mem _ (uw_X1 w hw)) hown hK.1 hP 0 rfl rfl 1 (by decide) (hts _ (List.mem_cons_of_mem _ k_148)) (fun _ h9 => h9) rfl dX1_readOne_1 ?_
  refine va_get (D := D) (ci := 5) (v := .int w_t_world.1) (C := RX5) (T := TX5) (N := 11) hx hb hts (fun w hw => List.mem_cons_of_mem _ (uw_X5 w hw)) hown hK.1 hP 1 rfl rfl 4 (by decide) (hts _ (List.mem_cons_of_mem _ k_42)) (fun _ h9 => h9) rfl dX1_readOne_4 ?_
  refine lv_iconst (v := 5) hx hb dX1_readOne_7 (by decide) ?_
  refine lv_icmp_lt (tgt := 17) hx hb dX1_readOne_8 (by decide) (fun c8 => ?_) (fun c8 => ?_)
  · replace h := it_p c8 h
    refine lv_aload_n hx hb dX1_readOne_17 rfl (lv_at hl 0 rfl) ?_
    refine lv_iconst (v := 0) hx hb dX1_readOne_18 (by decide) ?_
    obtain ⟨u19, hc19, h⟩ := bd_d h
    have hPc := hP.sub (ws' := wc_X1_readNumber cy q_t q_t_tape q_t_tape_bytes q_t_world w_t w_t_tape) [0, 6, 7] rfl
    have hDc := hD.sub (ws' := wc_X1_readNumber cy q_t q_t_tape q_t_tape_bytes q_t_world w_t w_t_tape) [0, 6, 7] (by decide) rfl
    refine cl_i (fun (u : s_R × s_T) => wc_X1_readOne cy q_t q_t_world q_t_world_kind q_t_world_grief q_t_world_bears q_t_world_rota q_t_tape q_t_tape_bytes u.1 w_t_world u.2) (va_runV (As := [.int 0]) (rest := []) (C := RX1) ⟨hx, hb, hml, hown, hts⟩ (c_X1_readNumber l D cy H.size q_t q_t_tape q_t_tape_bytes q_t_world w_t w_t_tape 0 hc19) ⟨callB_of 1 hts (wg_in k_352) rfl rfl rfl (hts _ (List.mem_cons_of_mem _ k_5)) (hts _ (List.mem_cons_of_mem _ k_349)) (by decide +kernel) ⟨by decide, by decide⟩, (hts _ (List.mem_cons_of_mem _ k_351)), (hts _ (List.mem_cons_of_mem _ ks_7))⟩ ⟨st_blind, va_recv hK.1 hPc (ci := 1) (q0 := 0) rfl rfl, fun U hU hW => st_pre hK hPc hDc hU hW⟩ rfl rfl hl.1 rfl (lv_room (Nat.le_of_ble_eq_true rfl)) dX1_readOne_19 ⟨by decide, by decide⟩) hP hD hS hA [0, 6, 7] [1, 2, 3, 4, 5] [5, 0, 1, 2, 3, 4, 6, 7] rfl rfl (by decide) (by decide) (by decide) (fun _ => rfl) (fun r u H locs hw hP hD hS => ?_)
    obtain ⟨rfl, rfl⟩ := hw
    have hP : va_P D vwCl (wc_X1_readOne cy q_t q_t_world q_t_world_kind q_t_world_grief q_t_world_bears q_t_world_rota q_t_tape q_t_tape_bytes u19.2.1 w_t_world u19.2.2) H := hP
    have hD : va_D A (wc_X1_readOne cy q_t q_t_world q_t_world_kind q_t_world_grief q_t_world_bears q_t_world_rota q_t_tape q_t_tape_bytes u19.2.1 w_t_world u19.2.2) := hD
    refine lv_if_ne (tgt := 27) hx hb dX1_readOne_22 (by decide) (fun c22 => ?_) (fun c22 => ?_)
    · replace h := it_n c22 h
      refine lv_aload_n hx hb dX1_readOne_27 rfl (lv_at hl 0 rfl) ?_
      refine va_get (D := D) (ci := 1) (v := .ref q_t_tape) (C := RX1) (T := TX1) (N := 5) hx hb hts (fun w hw => List.mem_cons_of_mem _ (uw_X1 w hw)) hown hK.1 hP 0 rfl rfl 0 (by decide) (hts _ (List.mem_cons_of_mem _ k_147)) (fun _ h9 => h9) rfl dX1_readOne_28 ?_
      refine va_get (D := D) (ci := 4) (v := .int u19.2.2.2.2.2.2.1) (C := RX4) (T := TX4) (N := 6) hx hb hts (fun w hw => List.mem_cons_of_mem _ (uw_X4 w hw)) hown hK.1 hP 6 rfl rfl 5 (by decide) (hts _ (List.mem_cons_of_mem _ k_126)) (fun _ h9 => h9) rfl dX1_readOne_31 ?_
      refine lv_istore_n (lv' := [(2, .int u19.2.2.2.2.2.2.1), (0, .ref q_t), (1, .int v1)]) hx hb dX1_readOne_34 rfl hl (by decide) rfl (fun ls hl => ?_)
      refine lv_aload_n hx hb dX1_readOne_35 rfl (lv_at hl 1 rfl) ?_
      refine lv_iconst (v := 1) hx hb dX1_readOne_36 (by decide) ?_
      obtain ⟨u37, hc37, h⟩ := bd_d h
      have hPc := hP.sub (ws' := wc_X1_readNumber cy q_t q_t_tape q_t_tape_bytes q_t_world u19.2.1 u19.2.2) [0, 6, 7] rfl
      have hDc := hD.sub (ws' := wc_X1_readNumber cy q_t q_t_tape q_t_tape_bytes q_t_world u19.2.1 u19.2.2) [0, 6, 7] (by decide) rfl
      refine cl_i (fun (u : s_R × s_T) => wc_X1_readOne cy q_t q_t_world q_t_world_kind q_t_world_grief q_t_world_bears q_t_world_rota q_t_tape q_t_tape_bytes u.1 w_t_world u.2) (va_runV (As := [.int 1]) (rest := []) (C := RX1) ⟨hx, hb, hml, hown, hts⟩ (c_X1_readNumber l D cy H.size q_t q_t_tape q_t_tape_bytes q_t_world u19.2.1 u19.2.2 1 hc37) ⟨callB_of 1 hts (wg_in k_352) rfl rfl rfl (hts _ (List.mem_cons_of_mem _ k_5)) (hts _ (List.mem_cons_of_mem _ k_349)) (by decide +kernel) ⟨by decide, by decide⟩, (hts _ (List.mem_cons_of_mem _ k_351)), (hts _ (List.mem_cons_of_mem _ ks_7))⟩ ⟨st_blind, va_recv hK.1 hPc (ci := 1) (q0 := 0) rfl rfl, fun U hU hW => st_pre hK hPc hDc hU hW⟩ rfl rfl hl.1 rfl (lv_room (Nat.le_of_ble_eq_true rfl)) dX1_readOne_37 ⟨by decide, by decide⟩) hP hD hS hA [0, 6, 7] [1, 2, 3, 4, 5] [5, 0, 1, 2, 3, 4, 6, 7] rfl rfl (by decide) (by decide) (by decide) (fun _ => rfl) (fun r u H locs hw hP hD hS => ?_)
      obtain ⟨rfl, rfl⟩ := hw
      have hP : va_P D vwCl (wc_X1_readOne cy q_t q_t_world q_t_world_kind q_t_world_grief q_t_world_bears q_t_world_rota q_t_tape q_t_tape_bytes u37.2.1 w_t_world u37.2.2) H := hP
      have hD : va_D A (wc_X1_readOne cy q_t q_t_world q_t_world_kind q_t_world_grief q_t_world_bears q_t_world_rota q_t_tape q_t_tape_bytes u37.2.1 w_t_world u37.2.2) := hD
      refine lv_if_ne (tgt := 45) hx hb dX1_readOne_40 (by decide) (fun c40 => ?_) (fun c40 => ?_)
      · replace h := it_n c40 h
        refine lv_aload_n hx hb dX1_readOne_45 rfl (lv_at hl 1 rfl) ?_
        refine va_get (D := D) (ci := 1) (v := .ref q_t_world) (C := RX1) (T := TX1) (N := 5) hx hb hts (fun w hw => List.mem_cons_of_mem _ (uw_X1 w hw)) hown hK.1 hP 0 rfl rfl 1 (by decide) (hts _ (List.mem_cons_of_mem _ k_148)) (fun _ h9 => h9) rfl dX1_readOne_46 ?_
        refine lv_iload_n hx hb dX1_readOne_49 rfl (lv_at hl 2 rfl) ?_
        refine lv_iload_n hx hb dX1_readOne_50 rfl (lv_at hl 0 rfl) ?_
        refine lv_aload_n hx hb dX1_readOne_51 rfl (lv_at hl 1 rfl) ?_
        refine va_get (D := D) (ci := 1) (v := .ref q_t_tape) (C := RX1) (T := TX1) (N := 5) hx hb hts (fun w hw => List.mem_cons_of_mem _ (uw_X1 w hw)) hown hK.1 hP 0 rfl rfl 0 (by decide) (hts _ (List.mem_cons_of_mem _ k_147)) (fun _ h9 => h9) rfl dX1_readOne_52 ?_
        refine va_get (D := D) (ci := 4) (v := .int u37.2.2.2.2.2.2.1) (C := RX4) (T := TX4) (N := 6) hx hb hts (fun w hw => List.mem_cons_of_mem _ (uw_X4 w hw)) hown hK.1 hP 6 rfl rfl 5 (by decide) (hts _ (List.mem_cons_of_mem _ k_126)) (fun _ h9 => h9) rfl dX1_readOne_55 ?_
        obtain ⟨u58, hc58, h⟩ := bd_d h
        have hPc := hP.sub (ws' := wc_X5_addOne cy q_t_world q_t_world_kind q_t_world_grief q_t_world_bears q_t_world_rota w_t_world) [1, 2, 3, 4, 5] rfl
        have hDc := hD.sub (ws' := wc_X5_addOne cy q_t_world q_t_world_kind q_t_world_grief q_t_world_bears q_t_world_rota w_t_world) [1, 2, 3, 4, 5] (by decide) rfl
        refine cl_v (fun (u : s_W) => wc_X1_readOne cy q_t q_t_world q_t_world_kind q_t_world_grief q_t_world_bears q_t_world_rota q_t_tape q_t_tape_bytes u37.2.1 u u37.2.2) (va_runV (As := [.int v1, .int u19.2.2.2.2.2.2.1, .int u37.2.2.2.2.2.2.1]) (rest := []) (C := RX5) ⟨hx, hb, hml, hown, hts⟩ (c_X5_addOne l D cy H.size q_t_world q_t_world_kind q_t_world_grief q_t_world_bears q_t_world_rota w_t_world v1 u19.2.2.2.2.2.2.1 u37.2.2.2.2.2.2.1 hc58) ⟨callB_of 3 hts (wg_in k_372) rfl rfl rfl (hts _ (List.mem_cons_of_mem _ k_2)) (hts _ (List.mem_cons_of_mem _ k_369)) (by decide +kernel) ⟨by decide, by decide⟩, (hts _ (List.mem_cons_of_mem _ k_370)), (hts _ (List.mem_cons_of_mem _ k_371))⟩ ⟨st_blind, va_recv hK.1 hPc (ci := 5) (q0 := 0) rfl rfl, fun U hU hW => st_pre hK hPc hDc hU hW⟩ rfl rfl hl.1 rfl (lv_room (Nat.le_of_ble_eq_true rfl)) dX1_readOne_58 ⟨by decide, by decide⟩) hP hD hS hA [1, 2, 3, 4, 5] [0, 6, 7] [0, 3, 4, 5, 6, 7, 1, 2] rfl rfl (by decide) (by decide) (by decide) (fun _ => rfl) (fun u H locs hw hP hD hS => ?_)
        obtain rfl := hw.symm
        have hP : va_P D vwCl (wc_X1_readOne cy q_t q_t_world q_t_world_kind q_t_world_grief q_t_world_bears q_t_world_rota q_t_tape q_t_tape_bytes u37.2.1 u58 u37.2.2) H := hP
        have hD : va_D A (wc_X1_readOne cy q_t q_t_world q_t_world_kind q_t_world_grief q_t_world_bears q_t_world_rota q_t_tape q_t_tape_bytes u37.2.1 u58 u37.2.2) := hD
        refine lv_aload_n hx hb dX1_readOne_61 rfl (lv_at hl 1 rfl) ?_
        obtain ⟨u62, hc62, h⟩ := bd_d h
        have hPc := hP.sub (ws' := wc_X1_readStop cy q_t q_t_tape q_t_tape_bytes q_t_world u37.2.1 u37.2.2) [0, 6, 7] rfl
        have hDc := hD.sub (ws' := wc_X1_readStop cy q_t q_t_tape q_t_tape_bytes q_t_world u37.2.1 u37.2.2) [0, 6, 7] (by decide) rfl
        refine cl_i (fun (u : s_R × s_T) => wc_X1_readOne cy q_t q_t_world q_t_world_kind q_t_world_grief q_t_world_bears q_t_world_rota q_t_tape q_t_tape_bytes u.1 u58 u.2) (va_runV (As := []) (rest := []) (C := RX1) ⟨hx, hb, hml, hown, hts⟩ (c_X1_readStop l D cy H.size q_t q_t_tape q_t_tape_bytes q_t_world u37.2.1 u37.2.2 hc62) ⟨callB_of 0 hts (wg_in k_356) rfl rfl rfl (hts _ (List.mem_cons_of_mem _ k_5)) (hts _ (List.mem_cons_of_mem _ k_353)) (by decide +kernel) ⟨by decide, by decide⟩, (hts _ (List.mem_cons_of_mem _ k_355)), (hts _ (List.mem_cons_of_mem _ ks_8))⟩ ⟨st_blind, va_recv hK.1 hPc (ci := 1) (q0 := 0) rfl rfl, fun U hU hW => st_pre hK hPc hDc hU hW⟩ rfl rfl hl.1 rfl (lv_room (Nat.le_of_ble_eq_true rfl)) dX1_readOne_62 ⟨by decide, by decide⟩) hP hD hS hA [0, 6, 7] [1, 2, 3, 4, 5] [5, 0, 1, 2, 3, 4, 6, 7] rfl rfl (by decide) (by decide) (by decide) (fun _ => rfl) (fun r u H locs hw hP hD hS => ?_)
        obtain ⟨rfl, rfl⟩ := hw
        have hP : va_P D vwCl (wc_X1_readOne cy q_t q_t_world q_t_world_kind q_t_world_grief q_t_world_bears q_t_world_rota q_t_tape q_t_tape_bytes u62.2.1 u58 u62.2.2) H := hP
        have hD : va_D A (wc_X1_readOne cy q_t q_t_world q_t_world_kind q_t_world_grief q_t_world_bears q_t_world_rota q_t_tape q_t_tape_bytes u62.2.1 u58 u62.2.2) := hD
        obtain ⟨hz1, h⟩ := gq_d h
        obtain rfl := Option.some.inj h
        exact W.zret (v := u62.1) hx hb hr hz1.1 (fun tt ht hW => ⟨⟨u62.1, (u62.2.1, u58, u62.2.2), rfl, ⟨rfl, rfl⟩, by rw [ht]; exact hP, kk_warm hW hK, hD⟩, hS.F ht⟩) hS.2.2 dX1_readOne_65
      · replace h := it_p c40 h
        refine lv_iconst (v := 0) hx hb dX1_readOne_43 (by decide) ?_
        obtain rfl := Option.some.inj h
        exact W.zret (v := 0) hx hb hr (by decide) (fun tt ht hW => ⟨⟨0, (u37.2.1, w_t_world, u37.2.2), rfl, ⟨rfl, rfl⟩, by rw [ht]; exact hP, kk_warm hW hK, hD⟩, hS.F ht⟩) hS.2.2 dX1_readOne_44
    · replace h := it_p c22 h
      refine lv_iconst (v := 0) hx hb dX1_readOne_25 (by decide) ?_
      obtain rfl := Option.some.inj h
      exact W.zret (v := 0) hx hb hr (by decide) (fun tt ht hW => ⟨⟨0, (u19.2.1, w_t_world, u19.2.2), rfl, ⟨rfl, rfl⟩, by rw [ht]; exact hP, kk_warm hW hK, hD⟩, hS.F ht⟩) hS.2.2 dX1_readOne_26
  · replace h := it_n c8 h
    refine lv_aload_n hx hb dX1_readOne_11 rfl (lv_at hl 0 rfl) ?_
    refine lv_iconst (v := 5) hx hb dX1_readOne_12 (by decide) ?_
    obtain ⟨u13, hc13, h⟩ := bd_d h
    have hPc := hP.sub (ws' := wc_X1_refuse cy q_t q_t_tape q_t_world w_t) [0] rfl
    have hDc := hD.sub (ws' := wc_X1_refuse cy q_t q_t_tape q_t_world w_t) [0] (by decide) rfl
    refine cl_i (fun (u : s_R) => wc_X1_readOne cy q_t q_t_world q_t_world_kind q_t_world_grief q_t_world_bears q_t_world_rota q_t_tape q_t_tape_bytes u w_t_world w_t_tape) (va_runV (As := [.int 5]) (rest := []) (C := RX1) ⟨hx, hb, hml, hown, hts⟩ (c_X1_refuse l D cy H.size q_t q_t_tape q_t_world w_t 5 hc13) ⟨callB_of 1 hts (wg_in k_282) rfl rfl rfl (hts _ (List.mem_cons_of_mem _ k_5)) (hts _ (List.mem_cons_of_mem _ k_279)) (by decide +kernel) ⟨by decide, by decide⟩, (hts _ (List.mem_cons_of_mem _ k_281)), (hts _ (List.mem_cons_of_mem _ ks_4))⟩ ⟨st_blind, va_recv hK.1 hPc (ci := 1) (q0 := 0) rfl rfl, fun U hU hW => st_pre hK hPc hDc hU hW⟩ rfl rfl hl.1 rfl (lv_room (Nat.le_of_ble_eq_true rfl)) dX1_readOne_13 ⟨by decide, by decide⟩) hP hD hS hA [0] [1, 2, 3, 4, 5, 6, 7] [7, 0, 1, 2, 3, 4, 5, 6] rfl rfl (by decide) (by decide) (by decide) (fun _ => rfl) (fun r u H locs hw hP hD hS => ?_)
    obtain ⟨rfl, rfl⟩ := hw
    have hP : va_P D vwCl (wc_X1_readOne cy q_t q_t_world q_t_world_kind q_t_world_grief q_t_world_bears q_t_world_rota q_t_tape q_t_tape_bytes u13.2 w_t_world w_t_tape) H := hP
    have hD : va_D A (wc_X1_readOne cy q_t q_t_world q_t_world_kind q_t_world_grief q_t_world_bears q_t_world_rota q_t_tape q_t_tape_bytes u13.2 w_t_world w_t_tape) := hD
    obtain ⟨hz2, h⟩ := gq_d h
    obtain rfl := Option.some.inj h
    exact W.zret (v := u13.1) hx hb hr hz2.1 (fun tt ht hW => ⟨⟨u13.1, (u13.2, w_t_world, w_t_tape), rfl, ⟨rfl, rfl⟩, by rw [ht]; exact hP, kk_warm hW hK, hD⟩, hS.F ht⟩) hS.2.2 dX1_readOne_16
def M_X1_readOne   (f : Nat) (w_t : s_R) (w_t_world : s_W) (w_t_tape : s_T) (v1 : Int32) : Option (Int32 × s_R × s_W × s_T) := B_X1_readOne_0 f w_t w_t_world w_t_tape v1
set_option maxHeartbeats 4000000 in
set_option maxRecDepth 100000 in
theorem c_X1_readOne (l : Launch) (D : va_G) (cy : Nat → ClassId) (sz : Nat) (q_t : Nat) (q_t_world : Nat) (q_t_world_kind : Nat) (q_t_world_grief : Nat) (q_t_world_bears : Nat) (q_t_world_rota : Nat) (q_t_tape : Nat) (q_t_tape_bytes : Nat) (w_t : s_R) (w_t_world : s_W) (w_t_tape : s_T) (v1 : Int32) {f : Nat} {res : Int32 × s_R × s_W × s_T} (h : M_X1_readOne f w_t w_t_world w_t_tape v1 = some res) : ct_i l yX1_readOne (.code yX1_readOne cX1_readOne 3 ((some .boolean)) :: wg_L) rm_X1_readOne D cy sz (wc_X1_readOne cy q_t q_t_world q_t_world_kind q_t_world_grief q_t_world_bears q_t_world_rota q_t_tape q_t_tape_bytes w_t w_t_world w_t_tape) [.ref q_t, .int v1] (fun r (u : s_R × s_W × s_T) => r = res.1 ∧ u = res.2) (fun (u : s_R × s_W × s_T) => wc_X1_readOne cy q_t q_t_world q_t_world_kind q_t_world_grief q_t_world_bears q_t_world_rota q_t_tape q_t_tape_bytes u.1 u.2.1 u.2.2) := by
  refine Met.ofW (cc := cX1_readOne) (maxL := 3) (ret := (some .boolean)) (by decide) rfl ?_
  intro p e s m args below meth c s₁ B hml hv
  obtain ⟨rfl, hsz, hP, hK, hD0⟩ := hv
  subst hsz
  have hD := hD0.self (sz := s.heap.size)
  have hl := lv_entry ([.ref q_t, .int v1]) (n := 3) (Nat.le_of_ble_eq_true rfl)
  rw [lg_entry_eq]
  have C0 : cx_C cX1_readOne ((some .boolean)) 3 RX1 (.code yX1_readOne cX1_readOne 3 ((some .boolean)) :: wg_L) p s m [.ref q_t, .int v1].toArray meth c D cy (va_A (wc_X1_readOne cy q_t q_t_world q_t_world_kind q_t_world_grief q_t_world_bears q_t_world_rota q_t_tape q_t_tape_bytes w_t w_t_world w_t_tape) s.heap.size) := ⟨B.exec, B.bytes, B.returns, hml, findClass_of_methodNamed B.named, atoms_spec (ws := .code yX1_readOne cX1_readOne 3 ((some .boolean)) :: wg_L) B.pre, hK, B.notSynchronized, fun q h => Or.inr h⟩
  exact b_X1_readOne_0 C0 h hP hD va_S.rf (lv_sub hl [0, 1] rfl)
/-! ### BarrowGrief$Reader.lineOfName()I -/
abbrev wc_X1_lineOfName (cy : Nat → ClassId) (q_t q_t_tape q_t_tape_bytes q_t_world : Nat) (w_t : s_R) (w_t_tape : s_T) : va_W := [(q_t, .inr (1, [.ref q_t_tape, .ref q_t_world, .int w_t.1, .int w_t.2.1, .int w_t.2.2])), (q_t_tape, .inr (4, [.ref q_t_tape_bytes, .int w_t_tape.1, .int w_t_tape.2.1, .int w_t_tape.2.2.1, .int w_t_tape.2.2.2.1, .int w_t_tape.2.2.2.2.1])), (q_t_tape_bytes, .inl (cy 0, 160, .inl w_t_tape.2.2.2.2.2))]
abbrev rm_X1_lineOfName : Room := { frames := 5, cells := 0, slots := 0, locals := 122 }
abbrev qq_X1_lineOfName (below : List Frame) (args : Array Value) (s : State) (D : va_G) (cy : Nat → ClassId) (A : Nat → Prop) (q_t : Nat) (q_t_tape : Nat) (q_t_tape_bytes : Nat) (q_t_world : Nat) (w_t : s_R) (w_t_tape : s_T) (res : Int32) : State → Prop := MQ below (va_Qi (fun r (_ : Unit) => r = res) (fun u t => st_B D cy A ((fun (u : Unit) => wc_X1_lineOfName cy q_t q_t_tape q_t_tape_bytes q_t_world w_t w_t_tape) u) t) A) args s 0 0 A
def B_X1_lineOfName_0  (w_t_tape : s_T) (f : Nat)   : Option (Int32) := (M_X4_spells 0 w_t_tape f).bind (fun u6 => if u6 = 0 then ((M_X4_spells 1 w_t_tape f).bind (fun u20 => if u20 = 0 then ((M_X4_spells 2 w_t_tape f).bind (fun u34 => if u34 = 0 then ((M_X4_spells 3 w_t_tape f).bind (fun u48 => if u48 = 0 then ((M_X4_spells 4 w_t_tape f).bind (fun u62 => if u62 = 0 then ((M_X4_spells 5 w_t_tape f).bind (fun u76 => if u76 = 0 then (some (-1)) else (some 5))) else (some 4))) else (some 3))) else (some 2))) else (some 1))) else (some 0))
set_option maxHeartbeats 4000000 in
set_option maxRecDepth 100000 in
theorem b_X1_lineOfName_0 {p : Program} {l : Launch} {e : Env} {s : State} {m : MethodId} {args : Array Value} {below : List Frame} {meth : Method} {c : Code} {D : va_G} {cy : Nat → ClassId} {A : Nat → Prop} {X : (Nat → Nat) × (Nat → Nat)} {q_t : Nat} {q_t_tape : Nat} {q_t_tape_bytes : Nat} {q_t_world : Nat} {w_t : s_R} {w_t_tape : s_T} {res : Int32}  {f : Nat}   (C0 : cx_C cX1_lineOfName ((some .int)) 1 RX1 (.code yX1_lineOfName cX1_lineOfName 1 ((some .int)) :: wg_L) p s m args meth c D cy A) (E0 : sx_E X A s s.heap)  (h : B_X1_lineOfName_0 w_t_tape f = some res) {H : Heap} {locs : List Loc} {ls : Array Slot} (hP : va_P D vwCl (wc_X1_lineOfName cy q_t q_t_tape q_t_tape_bytes q_t_world w_t w_t_tape) H) (hD : va_D A (wc_X1_lineOfName cy q_t q_t_tape q_t_tape_bytes q_t_world w_t w_t_tape)) (hS : va_S A s.heap H locs) (hl : lv_has ls 1 [(0, .ref q_t)]) : W p l e rm_X1_lineOfName s m args below meth c H locs 0 0 (qq_X1_lineOfName below args s D cy A q_t q_t_tape q_t_tape_bytes q_t_world w_t w_t_tape res) (F0 m 0 ls []) := by
  obtain ⟨hx, hb, hr, hml, hown, hts, hK, hlocks, hA⟩ := id C0
  unfold B_X1_lineOfName_0 at h
  refine lv_aload_n hx hb dX1_lineOfName_0 rfl (lv_at hl 0 rfl) ?_
  refine va_get (D := D) (ci := 1) (v := .ref q_t_tape) (C := RX1) (T := TX1) (N := 5) hx hb hts (fun w hw => List.mem_cons_of_mem _ (uw_X1 w hw)) hown hK.1 hP 0 rfl rfl 0 (by decide) (hts _ (List.mem_cons_of_mem _ k_147)) (fun _ h9 => h9) rfl dX1_lineOfName_1 ?_
  refine va_ldcS (own := RX1) hx hb hown E0.2.2.2.1 dX1_lineOfName_4 ?_
  obtain ⟨u6, hc6, h⟩ := bd_d h
  have hPc := hP.sub (ws' := wc_X4_spells cy q_t_tape q_t_tape_bytes 0 w_t_tape) [1, 2] rfl
  have hDc := hD.sub (ws' := wc_X4_spells cy q_t_tape q_t_tape_bytes 0 w_t_tape) [1, 2] (by decide) rfl
  have hEc := sx_nar (sx_kept E0 hS.2.1) (va_free (wc := wc_X4_spells cy q_t_tape q_t_tape_bytes 0 w_t_tape) hD hS hA [1, 2] rfl)
  refine cl_i (fun (u : Unit) => wc_X1_lineOfName cy q_t q_t_tape q_t_tape_bytes q_t_world w_t w_t_tape) (va_runV (As := [.ref (X.1 0)]) (rest := []) (C := RX4) ⟨hx, hb, hml, hown, hts⟩ (c_X4_spells l D cy H.size X q_t_tape q_t_tape_bytes 0 w_t_tape hc6) ⟨callB_of 1 hts (wg_in k_291) rfl rfl rfl (hts _ (List.mem_cons_of_mem _ k_4)) (hts _ (List.mem_cons_of_mem _ k_288)) (by decide +kernel) ⟨by decide, by decide⟩, (hts _ (List.mem_cons_of_mem _ k_289)), (hts _ (List.mem_cons_of_mem _ k_290))⟩ ⟨sx_blind, va_recv hK.1 hPc (ci := 4) (q0 := 0) rfl rfl, fun U hU hW => sx_pre hK hPc hDc hEc hU hW⟩ rfl rfl hl.1 rfl (lv_room (Nat.le_of_ble_eq_true rfl)) dX1_lineOfName_6 ⟨by decide, by decide⟩) hP hD hS hA [1, 2] [0] [0, 1, 2] rfl rfl (by decide) (by decide) (by decide) (fun _ => rfl) (fun r u H locs hw hP hD hS => ?_)
  obtain rfl := hw.symm
  refine lv_if_eq (tgt := 14) hx hb dX1_lineOfName_9 (by decide) (fun c9 => ?_) (fun c9 => ?_)
  · replace h := it_p c9 h
    refine lv_aload_n hx hb dX1_lineOfName_14 rfl (lv_at hl 0 rfl) ?_
    refine va_get (D := D) (ci := 1) (v := .ref q_t_tape) (C := RX1) (T := TX1) (N := 5) hx hb hts (fun w hw => List.mem_cons_of_mem _ (uw_X1 w hw)) hown hK.1 hP 0 rfl rfl 0 (by decide) (hts _ (List.mem_cons_of_mem _ k_147)) (fun _ h9 => h9) rfl dX1_lineOfName_15 ?_
    refine va_ldcS (own := RX1) hx hb hown E0.2.2.2.2.1 dX1_lineOfName_18 ?_
    obtain ⟨u20, hc20, h⟩ := bd_d h
    have hPc := hP.sub (ws' := wc_X4_spells cy q_t_tape q_t_tape_bytes 1 w_t_tape) [1, 2] rfl
    have hDc := hD.sub (ws' := wc_X4_spells cy q_t_tape q_t_tape_bytes 1 w_t_tape) [1, 2] (by decide) rfl
    have hEc := sx_nar (sx_kept E0 hS.2.1) (va_free (wc := wc_X4_spells cy q_t_tape q_t_tape_bytes 1 w_t_tape) hD hS hA [1, 2] rfl)
    refine cl_i (fun (u : Unit) => wc_X1_lineOfName cy q_t q_t_tape q_t_tape_bytes q_t_world w_t w_t_tape) (va_runV (As := [.ref (X.1 1)]) (rest := []) (C := RX4) ⟨hx, hb, hml, hown, hts⟩ (c_X4_spells l D cy H.size X q_t_tape q_t_tape_bytes 1 w_t_tape hc20) ⟨callB_of 1 hts (wg_in k_291) rfl rfl rfl (hts _ (List.mem_cons_of_mem _ k_4)) (hts _ (List.mem_cons_of_mem _ k_288)) (by decide +kernel) ⟨by decide, by decide⟩, (hts _ (List.mem_cons_of_mem _ k_289)), (hts _ (List.mem_cons_of_mem _ k_290))⟩ ⟨sx_blind, va_recv hK.1 hPc (ci := 4) (q0 := 0) rfl rfl, fun U hU hW => sx_pre hK hPc hDc hEc hU hW⟩ rfl rfl hl.1 rfl (lv_room (Nat.le_of_ble_eq_true rfl)) dX1_lineOfName_20 ⟨by decide, by decide⟩) hP hD hS hA [1, 2] [0] [0, 1, 2] rfl rfl (by decide) (by decide) (by decide) (fun _ => rfl) (fun r u H locs hw hP hD hS => ?_)
    obtain rfl := hw.symm
    refine lv_if_eq (tgt := 28) hx hb dX1_lineOfName_23 (by decide) (fun c23 => ?_) (fun c23 => ?_)
    · replace h := it_p c23 h
      refine lv_aload_n hx hb dX1_lineOfName_28 rfl (lv_at hl 0 rfl) ?_
      refine va_get (D := D) (ci := 1) (v := .ref q_t_tape) (C := RX1) (T := TX1) (N := 5) hx hb hts (fun w hw => List.mem_cons_of_mem _ (uw_X1 w hw)) hown hK.1 hP 0 rfl rfl 0 (by decide) (hts _ (List.mem_cons_of_mem _ k_147)) (fun _ h9 => h9) rfl dX1_lineOfName_29 ?_
      refine va_ldcS (own := RX1) hx hb hown E0.2.2.2.2.2.1 dX1_lineOfName_32 ?_
      obtain ⟨u34, hc34, h⟩ := bd_d h
      have hPc := hP.sub (ws' := wc_X4_spells cy q_t_tape q_t_tape_bytes 2 w_t_tape) [1, 2] rfl
      have hDc := hD.sub (ws' := wc_X4_spells cy q_t_tape q_t_tape_bytes 2 w_t_tape) [1, 2] (by decide) rfl
      have hEc := sx_nar (sx_kept E0 hS.2.1) (va_free (wc := wc_X4_spells cy q_t_tape q_t_tape_bytes 2 w_t_tape) hD hS hA [1, 2] rfl)
      refine cl_i (fun (u : Unit) => wc_X1_lineOfName cy q_t q_t_tape q_t_tape_bytes q_t_world w_t w_t_tape) (va_runV (As := [.ref (X.1 2)]) (rest := []) (C := RX4) ⟨hx, hb, hml, hown, hts⟩ (c_X4_spells l D cy H.size X q_t_tape q_t_tape_bytes 2 w_t_tape hc34) ⟨callB_of 1 hts (wg_in k_291) rfl rfl rfl (hts _ (List.mem_cons_of_mem _ k_4)) (hts _ (List.mem_cons_of_mem _ k_288)) (by decide +kernel) ⟨by decide, by decide⟩, (hts _ (List.mem_cons_of_mem _ k_289)), (hts _ (List.mem_cons_of_mem _ k_290))⟩ ⟨sx_blind, va_recv hK.1 hPc (ci := 4) (q0 := 0) rfl rfl, fun U hU hW => sx_pre hK hPc hDc hEc hU hW⟩ rfl rfl hl.1 rfl (lv_room (Nat.le_of_ble_eq_true rfl)) dX1_lineOfName_34 ⟨by decide, by decide⟩) hP hD hS hA [1, 2] [0] [0, 1, 2] rfl rfl (by decide) (by decide) (by decide) (fun _ => rfl) (fun r u H locs hw hP hD hS => ?_)
      obtain rfl := hw.symm
      refine lv_if_eq (tgt := 42) hx hb dX1_lineOfName_37 (by decide) (fun c37 => ?_) (fun c37 => ?_)
      · replace h := it_p c37 h
        refine lv_aload_n hx hb dX1_lineOfName_42 rfl (lv_at hl 0 rfl) ?_
        refine va_get (D := D) (ci := 1) (v := .ref q_t_tape) (C := RX1) (T := TX1) (N := 5) hx hb hts (fun w hw => List.mem_cons_of_mem _ (uw_X1 w hw)) hown hK.1 hP 0 rfl rfl 0 (by decide) (hts _ (List.mem_cons_of_mem _ k_147)) (fun _ h9 => h9) rfl dX1_lineOfName_43 ?_
        refine va_ldcS (own := RX1) hx hb hown E0.2.2.2.2.2.2.1 dX1_lineOfName_46 ?_
        obtain ⟨u48, hc48, h⟩ := bd_d h
        have hPc := hP.sub (ws' := wc_X4_spells cy q_t_tape q_t_tape_bytes 3 w_t_tape) [1, 2] rfl
        have hDc := hD.sub (ws' := wc_X4_spells cy q_t_tape q_t_tape_bytes 3 w_t_tape) [1, 2] (by decide) rfl
        have hEc := sx_nar (sx_kept E0 hS.2.1) (va_free (wc := wc_X4_spells cy q_t_tape q_t_tape_bytes 3 w_t_tape) hD hS hA [1, 2] rfl)
        refine cl_i (fun (u : Unit) => wc_X1_lineOfName cy q_t q_t_tape q_t_tape_bytes q_t_world w_t w_t_tape) (va_runV (As := [.ref (X.1 3)]) (rest := []) (C := RX4) ⟨hx, hb, hml, hown, hts⟩ (c_X4_spells l D cy H.size X q_t_tape q_t_tape_bytes 3 w_t_tape hc48) ⟨callB_of 1 hts (wg_in k_291) rfl rfl rfl (hts _ (List.mem_cons_of_mem _ k_4)) (hts _ (List.mem_cons_of_mem _ k_288)) (by decide +kernel) ⟨by decide, by decide⟩, (hts _ (List.mem_cons_of_mem _ k_289)), (hts _ (List.mem_cons_of_mem _ k_290))⟩ ⟨sx_blind, va_recv hK.1 hPc (ci := 4) (q0 := 0) rfl rfl, fun U hU hW => sx_pre hK hPc hDc hEc hU hW⟩ rfl rfl hl.1 rfl (lv_room (Nat.le_of_ble_eq_true rfl)) dX1_lineOfName_48 ⟨by decide, by decide⟩) hP hD hS hA [1, 2] [0] [0, 1, 2] rfl rfl (by decide) (by decide) (by decide) (fun _ => rfl) (fun r u H locs hw hP hD hS => ?_)
        obtain rfl := hw.symm
        refine lv_if_eq (tgt := 56) hx hb dX1_lineOfName_51 (by decide) (fun c51 => ?_) (fun c51 => ?_)
        · replace h := it_p c51 h
          refine lv_aload_n hx hb dX1_lineOfName_56 rfl (lv_at hl 0 rfl) ?_
          refine va_get (D := D) (ci := 1) (v := .ref q_t_tape) (C := RX1) (T := TX1) (N := 5) hx hb hts (fun w hw => List.mem_cons_of_mem _ (uw_X1 w hw)) hown hK.1 hP 0 rfl rfl 0 (by decide) (hts _ (List.mem_cons_of_mem _ k_147)) (fun _ h9 => h9) rfl dX1_lineOfName_57 ?_
          refine va_ldcS (own := RX1) hx hb hown E0.2.2.2.2.2.2.2.1 dX1_lineOfName_60 ?_
          obtain ⟨u62, hc62, h⟩ := bd_d h
          have hPc := hP.sub (ws' := wc_X4_spells cy q_t_tape q_t_tape_bytes 4 w_t_tape) [1, 2] rfl
          have hDc := hD.sub (ws' := wc_X4_spells cy q_t_tape q_t_tape_bytes 4 w_t_tape) [1, 2] (by decide) rfl
          have hEc := sx_nar (sx_kept E0 hS.2.1) (va_free (wc := wc_X4_spells cy q_t_tape q_t_tape_bytes 4 w_t_tape) hD hS hA [1, 2] rfl)
          refine cl_i (fun (u : Unit) => wc_X1_lineOfName cy q_t q_t_tape q_t_tape_bytes q_t_world w_t w_t_tape) (va_runV (As := [.ref (X.1 4)]) (rest := []) (C := RX4) ⟨hx, hb, hml, hown, hts⟩ (c_X4_spells l D cy H.size X q_t_tape q_t_tape_bytes 4 w_t_tape hc62) ⟨callB_of 1 hts (wg_in k_291) rfl rfl rfl (hts _ (List.mem_cons_of_mem _ k_4)) (hts _ (List.mem_cons_of_mem _ k_288)) (by decide +kernel) ⟨by decide, by decide⟩, (hts _ (List.mem_cons_of_mem _ k_289)), (hts _ (List.mem_cons_of_mem _ k_290))⟩ ⟨sx_blind, va_recv hK.1 hPc (ci := 4) (q0 := 0) rfl rfl, fun U hU hW => sx_pre hK hPc hDc hEc hU hW⟩ rfl rfl hl.1 rfl (lv_room (Nat.le_of_ble_eq_true rfl)) dX1_lineOfName_62 ⟨by decide, by decide⟩) hP hD hS hA [1, 2] [0] [0, 1, 2] rfl rfl (by decide) (by decide) (by decide) (fun _ => rfl) (fun r u H locs hw hP hD hS => ?_)
          obtain rfl := hw.symm
          refine lv_if_eq (tgt := 70) hx hb dX1_lineOfName_65 (by decide) (fun c65 => ?_) (fun c65 => ?_)
          · replace h := it_p c65 h
            refine lv_aload_n hx hb dX1_lineOfName_70 rfl (lv_at hl 0 rfl) ?_
            refine va_get (D := D) (ci := 1) (v := .ref q_t_tape) (C := RX1) (T := TX1) (N := 5) hx hb hts (fun w hw => List.mem_cons_of_mem _ (uw_X1 w hw)) hown hK.1 hP 0 rfl rfl 0 (by decide) (hts _ (List.mem_cons_of_mem _ k_147)) (fun _ h9 => h9) rfl dX1_lineOfName_71 ?_
            refine va_ldcS (own := RX1) hx hb hown E0.2.2.2.2.2.2.2.2 dX1_lineOfName_74 ?_
            obtain ⟨u76, hc76, h⟩ := bd_d h
            have hPc := hP.sub (ws' := wc_X4_spells cy q_t_tape q_t_tape_bytes 5 w_t_tape) [1, 2] rfl
            have hDc := hD.sub (ws' := wc_X4_spells cy q_t_tape q_t_tape_bytes 5 w_t_tape) [1, 2] (by decide) rfl
            have hEc := sx_nar (sx_kept E0 hS.2.1) (va_free (wc := wc_X4_spells cy q_t_tape q_t_tape_bytes 5 w_t_tape) hD hS hA [1, 2] rfl)
            refine cl_i (fun (u : Unit) => wc_X1_lineOfName cy q_t q_t_tape q_t_tape_bytes q_t_world w_t w_t_tape) (va_runV (As := [.ref (X.1 5)]) (rest := []) (C := RX4) ⟨hx, hb, hml, hown, hts⟩ (c_X4_spells l D cy H.size X q_t_tape q_t_tape_bytes 5 w_t_tape hc76) ⟨callB_of 1 hts (wg_in k_291) rfl rfl rfl (hts _ (List.mem_cons_of_mem _ k_4)) (hts _ (List.mem_cons_of_mem _ k_288)) (by decide +kernel) ⟨by decide, by decide⟩, (hts _ (List.mem_cons_of_mem _ k_289)), (hts _ (List.mem_cons_of_mem _ k_290))⟩ ⟨sx_blind, va_recv hK.1 hPc (ci := 4) (q0 := 0) rfl rfl, fun U hU hW => sx_pre hK hPc hDc hEc hU hW⟩ rfl rfl hl.1 rfl (lv_room (Nat.le_of_ble_eq_true rfl)) dX1_lineOfName_76 ⟨by decide, by decide⟩) hP hD hS hA [1, 2] [0] [0, 1, 2] rfl rfl (by decide) (by decide) (by decide) (fun _ => rfl) (fun r u H locs hw hP hD hS => ?_)
            obtain rfl := hw.symm
            refine lv_if_eq (tgt := 86) hx hb dX1_lineOfName_79 (by decide) (fun c79 => ?_) (fun c79 => ?_)
            · replace h := it_p c79 h
              refine lv_iconst (v := (-1)) hx hb dX1_lineOfName_86 (by decide) ?_
              obtain rfl := Option.some.inj h
              exact W.iret (v := (-1)) hx hb hr (fun tt ht hW => ⟨⟨(-1), (), rfl, rfl, by rw [ht]; exact hP, kk_warm hW hK, hD⟩, hS.F ht⟩) hS.2.2 dX1_lineOfName_87
            · replace h := it_n c79 h
              refine lv_iconst (v := 5) hx hb dX1_lineOfName_82 (by decide) ?_
              refine lv_goto (tgt := 87) hx hb dX1_lineOfName_83 (by decide) ?_
              obtain rfl := Option.some.inj h
              exact W.iret (v := 5) hx hb hr (fun tt ht hW => ⟨⟨5, (), rfl, rfl, by rw [ht]; exact hP, kk_warm hW hK, hD⟩, hS.F ht⟩) hS.2.2 dX1_lineOfName_87
          · replace h := it_n c65 h
            refine lv_iconst (v := 4) hx hb dX1_lineOfName_68 (by decide) ?_
            obtain rfl := Option.some.inj h
            exact W.iret (v := 4) hx hb hr (fun tt ht hW => ⟨⟨4, (), rfl, rfl, by rw [ht]; exact hP, kk_warm hW hK, hD⟩, hS.F ht⟩) hS.2.2 dX1_lineOfName_69
        · replace h := it_n c51 h
          refine lv_iconst (v := 3) hx hb dX1_lineOfName_54 (by decide) ?_
          obtain rfl := Option.some.inj h
          exact W.iret (v := 3) hx hb hr (fun tt ht hW => ⟨⟨3, (), rfl, rfl, by rw [ht]; exact hP, kk_warm hW hK, hD⟩, hS.F ht⟩) hS.2.2 dX1_lineOfName_55
      · replace h := it_n c37 h
        refine lv_iconst (v := 2) hx hb dX1_lineOfName_40 (by decide) ?_
        obtain rfl := Option.some.inj h
        exact W.iret (v := 2) hx hb hr (fun tt ht hW => ⟨⟨2, (), rfl, rfl, by rw [ht]; exact hP, kk_warm hW hK, hD⟩, hS.F ht⟩) hS.2.2 dX1_lineOfName_41
    · replace h := it_n c23 h
      refine lv_iconst (v := 1) hx hb dX1_lineOfName_26 (by decide) ?_
      obtain rfl := Option.some.inj h
      exact W.iret (v := 1) hx hb hr (fun tt ht hW => ⟨⟨1, (), rfl, rfl, by rw [ht]; exact hP, kk_warm hW hK, hD⟩, hS.F ht⟩) hS.2.2 dX1_lineOfName_27
  · replace h := it_n c9 h
    refine lv_iconst (v := 0) hx hb dX1_lineOfName_12 (by decide) ?_
    obtain rfl := Option.some.inj h
    exact W.iret (v := 0) hx hb hr (fun tt ht hW => ⟨⟨0, (), rfl, rfl, by rw [ht]; exact hP, kk_warm hW hK, hD⟩, hS.F ht⟩) hS.2.2 dX1_lineOfName_13
def M_X1_lineOfName  (w_t_tape : s_T) (f : Nat)   : Option (Int32) := B_X1_lineOfName_0 w_t_tape f
set_option maxHeartbeats 4000000 in
set_option maxRecDepth 100000 in
theorem c_X1_lineOfName (l : Launch) (D : va_G) (cy : Nat → ClassId) (sz : Nat) (X : (Nat → Nat) × (Nat → Nat)) (q_t : Nat) (q_t_tape : Nat) (q_t_tape_bytes : Nat) (q_t_world : Nat) (w_t : s_R) (w_t_tape : s_T)  {f : Nat} {res : Int32} (h : M_X1_lineOfName w_t_tape f = some res) : cx_i l yX1_lineOfName (.code yX1_lineOfName cX1_lineOfName 1 ((some .int)) :: wg_L) rm_X1_lineOfName D cy sz X (wc_X1_lineOfName cy q_t q_t_tape q_t_tape_bytes q_t_world w_t w_t_tape) [.ref q_t] (fun r (_ : Unit) => r = res) (fun (u : Unit) => wc_X1_lineOfName cy q_t q_t_tape q_t_tape_bytes q_t_world w_t w_t_tape) := by
  refine Met.ofW (cc := cX1_lineOfName) (maxL := 1) (ret := (some .int)) (by decide) rfl ?_
  intro p e s m args below meth c s₁ B hml hv
  obtain ⟨rfl, hsz, hP, hK, hD0, hE⟩ := hv
  subst hsz
  have hD := hD0.self (sz := s.heap.size)
  have hl := lv_entry ([.ref q_t]) (n := 1) (Nat.le_of_ble_eq_true rfl)
  rw [lg_entry_eq]
  have C0 : cx_C cX1_lineOfName ((some .int)) 1 RX1 (.code yX1_lineOfName cX1_lineOfName 1 ((some .int)) :: wg_L) p s m [.ref q_t].toArray meth c D cy (va_A (wc_X1_lineOfName cy q_t q_t_tape q_t_tape_bytes q_t_world w_t w_t_tape) s.heap.size) := ⟨B.exec, B.bytes, B.returns, hml, findClass_of_methodNamed B.named, atoms_spec (ws := .code yX1_lineOfName cX1_lineOfName 1 ((some .int)) :: wg_L) B.pre, hK, B.notSynchronized, fun q h => Or.inr h⟩
  exact b_X1_lineOfName_0 C0 hE h hP hD va_S.rf (lv_sub hl [0] rfl)
/-! ### BarrowGrief$Reader.readLine()Z -/
abbrev wc_X1_readLine (cy : Nat → ClassId) (q_t q_t_tape q_t_tape_bytes q_t_world q_t_world_kind q_t_world_grief q_t_world_bears q_t_world_rota : Nat) (w_t : s_R) (w_t_tape : s_T) (w_t_world : s_W) : va_W := [(q_t, .inr (1, [.ref q_t_tape, .ref q_t_world, .int w_t.1, .int w_t.2.1, .int w_t.2.2])), (q_t_tape, .inr (4, [.ref q_t_tape_bytes, .int w_t_tape.1, .int w_t_tape.2.1, .int w_t_tape.2.2.1, .int w_t_tape.2.2.2.1, .int w_t_tape.2.2.2.2.1])), (q_t_tape_bytes, .inl (cy 0, 160, .inl w_t_tape.2.2.2.2.2)), (q_t_world, .inr (5, [.ref q_t_world_kind, .ref q_t_world_grief, .ref q_t_world_bears, .ref q_t_world_rota, .int w_t_world.1, .int w_t_world.2.1, .int w_t_world.2.2.1, .int w_t_world.2.2.2.1, .int w_t_world.2.2.2.2.1, .int w_t_world.2.2.2.2.2.1, .int w_t_world.2.2.2.2.2.2.1])), (q_t_world_kind, .inl (cy 1, 5, .inl w_t_world.2.2.2.2.2.2.2.1)), (q_t_world_grief, .inl (cy 1, 5, .inl w_t_world.2.2.2.2.2.2.2.2.1)), (q_t_world_bears, .inl (cy 1, 5, .inl w_t_world.2.2.2.2.2.2.2.2.2.1)), (q_t_world_rota, .inl (cy 1, 8, .inl w_t_world.2.2.2.2.2.2.2.2.2.2))]
abbrev rm_X1_readLine : Room := { frames := 6, cells := 0, slots := 0, locals := 142 }
abbrev qq_X1_readLine (below : List Frame) (args : Array Value) (s : State) (D : va_G) (cy : Nat → ClassId) (A : Nat → Prop) (q_t : Nat) (q_t_tape : Nat) (q_t_tape_bytes : Nat) (q_t_world : Nat) (q_t_world_kind : Nat) (q_t_world_grief : Nat) (q_t_world_bears : Nat) (q_t_world_rota : Nat) (res : Int32 × s_R × s_T × s_W) : State → Prop := MQ below (va_Qi (fun r (u : s_R × s_T × s_W) => r = res.1 ∧ u = res.2) (fun u t => st_B D cy A ((fun (u : s_R × s_T × s_W) => wc_X1_readLine cy q_t q_t_tape q_t_tape_bytes q_t_world q_t_world_kind q_t_world_grief q_t_world_bears q_t_world_rota u.1 u.2.1 u.2.2) u) t) A) args s 0 0 A
def B_X1_readLine_0   (f : Nat) (w_t : s_R) (w_t_tape : s_T) (w_t_world : s_W)  : Option (Int32 × s_R × s_T × s_W) := (M_X1_expect w_t_tape w_t 1).bind (fun u2 => if u2.1 = 0 then (some (0, u2.2, w_t_tape, w_t_world)) else ((M_X1_lineOfName w_t_tape f).bind (fun u11 => if u11 = (-1) then ((M_X1_refuse u2.2 2).bind (fun u22 => gq_b u22.1 (some (u22.1, u22.2, w_t_tape, w_t_world)))) else (if u11 = 4 then ((M_X1_readBarrow f u2.2 w_t_tape w_t_world).bind (fun u32 => gq_b u32.1 (some (u32.1, u32.2.1, u32.2.2.1, u32.2.2.2)))) else (if u11 = 5 then ((M_X1_readRota f u2.2 w_t_tape w_t_world).bind (fun u42 => gq_b u42.1 (some (u42.1, u42.2.1, u42.2.2.1, u42.2.2.2)))) else ((M_X1_readOne f u2.2 w_t_world w_t_tape u11).bind (fun u50 => gq_b u50.1 (some (u50.1, u50.2.1, u50.2.2.2, u50.2.2.1)))))))))
set_option maxHeartbeats 4000000 in
set_option maxRecDepth 100000 in
theorem b_X1_readLine_0 {p : Program} {l : Launch} {e : Env} {s : State} {m : MethodId} {args : Array Value} {below : List Frame} {meth : Method} {c : Code} {D : va_G} {cy : Nat → ClassId} {A : Nat → Prop} {X : (Nat → Nat) × (Nat → Nat)} {q_t : Nat} {q_t_tape : Nat} {q_t_tape_bytes : Nat} {q_t_world : Nat} {q_t_world_kind : Nat} {q_t_world_grief : Nat} {q_t_world_bears : Nat} {q_t_world_rota : Nat} {res : Int32 × s_R × s_T × s_W}  {f : Nat} {w_t : s_R} {w_t_tape : s_T} {w_t_world : s_W}  (C0 : cx_C cX1_readLine ((some .boolean)) 2 RX1 (.code yX1_readLine cX1_readLine 2 ((some .boolean)) :: wg_L) p s m args meth c D cy A) (E0 : sx_E X A s s.heap)  (h : B_X1_readLine_0 f w_t w_t_tape w_t_world = some res) {H : Heap} {locs : List Loc} {ls : Array Slot} (hP : va_P D vwCl (wc_X1_readLine cy q_t q_t_tape q_t_tape_bytes q_t_world q_t_world_kind q_t_world_grief q_t_world_bears q_t_world_rota w_t w_t_tape w_t_world) H) (hD : va_D A (wc_X1_readLine cy q_t q_t_tape q_t_tape_bytes q_t_world q_t_world_kind q_t_world_grief q_t_world_bears q_t_world_rota w_t w_t_tape w_t_world)) (hS : va_S A s.heap H locs) (hl : lv_has ls 2 [(0, .ref q_t)]) : W p l e rm_X1_readLine s m args below meth c H locs 0 0 (qq_X1_readLine below args s D cy A q_t q_t_tape q_t_tape_bytes q_t_world q_t_world_kind q_t_world_grief q_t_world_bears q_t_world_rota res) (F0 m 0 ls []) := by
  obtain ⟨hx, hb, hr, hml, hown, hts, hK, hlocks, hA⟩ := id C0
  unfold B_X1_readLine_0 at h
  refine lv_aload_n hx hb dX1_readLine_0 rfl (lv_at hl 0 rfl) ?_
  refine lv_iconst (v := 1) hx hb dX1_readLine_1 (by decide) ?_
  obtain ⟨u2, hc2, h⟩ := bd_d h
  have hPc := hP.sub (ws' := wc_X1_expect cy q_t q_t_tape q_t_tape_bytes q_t_world w_t w_t_tape) [0, 1, 2] rfl
  have hDc := hD.sub (ws' := wc_X1_expect cy q_t q_t_tape q_t_tape_bytes q_t_world w_t w_t_tape) [0, 1, 2] (by decide) rfl
  refine cl_i (fun (u : s_R) => wc_X1_readLine cy q_t q_t_tape q_t_tape_bytes q_t_world q_t_world_kind q_t_world_grief q_t_world_bears q_t_world_rota u w_t_tape w_t_world) (va_runV (As := [.int 1]) (rest := []) (C := RX1) ⟨hx, hb, hml, hown, hts⟩ (c_X1_expect l D cy H.size q_t q_t_tape q_t_tape_bytes q_t_world w_t w_t_tape 1 hc2) ⟨callB_of 1 hts (wg_in k_278) rfl rfl rfl (hts _ (List.mem_cons_of_mem _ k_5)) (hts _ (List.mem_cons_of_mem _ k_275)) (by decide +kernel) ⟨by decide, by decide⟩, (hts _ (List.mem_cons_of_mem _ k_277)), (hts _ (List.mem_cons_of_mem _ ks_3))⟩ ⟨st_blind, va_recv hK.1 hPc (ci := 1) (q0 := 0) rfl rfl, fun U hU hW => st_pre hK hPc hDc hU hW⟩ rfl rfl hl.1 rfl (lv_room (Nat.le_of_ble_eq_true rfl)) dX1_readLine_2 ⟨by decide, by decide⟩) hP hD hS hA [0, 1, 2] [3, 4, 5, 6, 7] [5, 6, 7, 0, 1, 2, 3, 4] rfl rfl (by decide) (by decide) (by decide) (fun _ => rfl) (fun r u H locs hw hP hD hS => ?_)
  obtain ⟨rfl, rfl⟩ := hw
  have hP : va_P D vwCl (wc_X1_readLine cy q_t q_t_tape q_t_tape_bytes q_t_world q_t_world_kind q_t_world_grief q_t_world_bears q_t_world_rota u2.2 w_t_tape w_t_world) H := hP
  have hD : va_D A (wc_X1_readLine cy q_t q_t_tape q_t_tape_bytes q_t_world q_t_world_kind q_t_world_grief q_t_world_bears q_t_world_rota u2.2 w_t_tape w_t_world) := hD
  refine lv_if_ne (tgt := 10) hx hb dX1_readLine_5 (by decide) (fun c5 => ?_) (fun c5 => ?_)
  · replace h := it_n c5 h
    refine lv_aload_n hx hb dX1_readLine_10 rfl (lv_at hl 0 rfl) ?_
    obtain ⟨u11, hc11, h⟩ := bd_d h
    have hPc := hP.sub (ws' := wc_X1_lineOfName cy q_t q_t_tape q_t_tape_bytes q_t_world u2.2 w_t_tape) [0, 1, 2] rfl
    have hDc := hD.sub (ws' := wc_X1_lineOfName cy q_t q_t_tape q_t_tape_bytes q_t_world u2.2 w_t_tape) [0, 1, 2] (by decide) rfl
    have hEc := sx_nar (sx_kept E0 hS.2.1) (va_free (wc := wc_X1_lineOfName cy q_t q_t_tape q_t_tape_bytes q_t_world u2.2 w_t_tape) hD hS hA [0, 1, 2] rfl)
    refine cl_i (fun (u : Unit) => wc_X1_readLine cy q_t q_t_tape q_t_tape_bytes q_t_world q_t_world_kind q_t_world_grief q_t_world_bears q_t_world_rota u2.2 w_t_tape w_t_world) (va_runV (As := []) (rest := []) (C := RX1) ⟨hx, hb, hml, hown, hts⟩ (c_X1_lineOfName l D cy H.size X q_t q_t_tape q_t_tape_bytes q_t_world u2.2 w_t_tape hc11) ⟨callB_of 0 hts (wg_in k_286) rfl rfl rfl (hts _ (List.mem_cons_of_mem _ k_5)) (hts _ (List.mem_cons_of_mem _ k_283)) (by decide +kernel) ⟨by decide, by decide⟩, (hts _ (List.mem_cons_of_mem _ k_285)), (hts _ (List.mem_cons_of_mem _ ks_5))⟩ ⟨sx_blind, va_recv hK.1 hPc (ci := 1) (q0 := 0) rfl rfl, fun U hU hW => sx_pre hK hPc hDc hEc hU hW⟩ rfl rfl hl.1 rfl (lv_room (Nat.le_of_ble_eq_true rfl)) dX1_readLine_11 ⟨by decide, by decide⟩) hP hD hS hA [0, 1, 2] [3, 4, 5, 6, 7] [5, 6, 7, 0, 1, 2, 3, 4] rfl rfl (by decide) (by decide) (by decide) (fun _ => rfl) (fun r u H locs hw hP hD hS => ?_)
    obtain rfl := hw.symm
    refine lv_istore_n (lv' := [(1, .int u11), (0, .ref q_t)]) hx hb dX1_readLine_14 rfl hl (by decide) rfl (fun ls hl => ?_)
    refine lv_iload_n hx hb dX1_readLine_15 rfl (lv_at hl 0 rfl) ?_
    refine lv_iconst (v := (-1)) hx hb dX1_readLine_16 (by decide) ?_
    refine lv_icmp_ne (tgt := 26) hx hb dX1_readLine_17 (by decide) (fun c17 => ?_) (fun c17 => ?_)
    · replace h := it_n c17 h
      refine lv_iload_n hx hb dX1_readLine_26 rfl (lv_at hl 0 rfl) ?_
      refine lv_iconst (v := 4) hx hb dX1_readLine_27 (by decide) ?_
      refine lv_icmp_ne (tgt := 36) hx hb dX1_readLine_28 (by decide) (fun c28 => ?_) (fun c28 => ?_)
      · replace h := it_n c28 h
        refine lv_iload_n hx hb dX1_readLine_36 rfl (lv_at hl 0 rfl) ?_
        refine lv_iconst (v := 5) hx hb dX1_readLine_37 (by decide) ?_
        refine lv_icmp_ne (tgt := 48) hx hb dX1_readLine_38 (by decide) (fun c38 => ?_) (fun c38 => ?_)
        · replace h := it_n c38 h
          refine lv_aload_n hx hb dX1_readLine_48 rfl (lv_at hl 1 rfl) ?_
          refine lv_iload_n hx hb dX1_readLine_49 rfl (lv_at hl 0 rfl) ?_
          obtain ⟨u50, hc50, h⟩ := bd_d h
          have hPc := hP.sub (ws' := wc_X1_readOne cy q_t q_t_world q_t_world_kind q_t_world_grief q_t_world_bears q_t_world_rota q_t_tape q_t_tape_bytes u2.2 w_t_world w_t_tape) [0, 3, 4, 5, 6, 7, 1, 2] rfl
          have hDc := hD.sub (ws' := wc_X1_readOne cy q_t q_t_world q_t_world_kind q_t_world_grief q_t_world_bears q_t_world_rota q_t_tape q_t_tape_bytes u2.2 w_t_world w_t_tape) [0, 3, 4, 5, 6, 7, 1, 2] (by decide) rfl
          refine cl_i (fun (u : s_R × s_W × s_T) => wc_X1_readLine cy q_t q_t_tape q_t_tape_bytes q_t_world q_t_world_kind q_t_world_grief q_t_world_bears q_t_world_rota u.1 u.2.2 u.2.1) (va_runV (As := [.int u11]) (rest := []) (C := RX1) ⟨hx, hb, hml, hown, hts⟩ (c_X1_readOne l D cy H.size q_t q_t_world q_t_world_kind q_t_world_grief q_t_world_bears q_t_world_rota q_t_tape q_t_tape_bytes u2.2 w_t_world w_t_tape u11 hc50) ⟨callB_of 1 hts (wg_in k_368) rfl rfl rfl (hts _ (List.mem_cons_of_mem _ k_5)) (hts _ (List.mem_cons_of_mem _ k_365)) (by decide +kernel) ⟨by decide, by decide⟩, (hts _ (List.mem_cons_of_mem _ k_367)), (hts _ (List.mem_cons_of_mem _ ks_10))⟩ ⟨st_blind, va_recv hK.1 hPc (ci := 1) (q0 := 0) rfl rfl, fun U hU hW => st_pre hK hPc hDc hU hW⟩ rfl rfl hl.1 rfl (lv_room (Nat.le_of_ble_eq_true rfl)) dX1_readLine_50 ⟨by decide, by decide⟩) hP hD hS hA [0, 3, 4, 5, 6, 7, 1, 2] [] [0, 6, 7, 1, 2, 3, 4, 5] rfl rfl (by decide) (by decide) (by decide) (fun _ => rfl) (fun r u H locs hw hP hD hS => ?_)
          obtain ⟨rfl, rfl⟩ := hw
          have hP : va_P D vwCl (wc_X1_readLine cy q_t q_t_tape q_t_tape_bytes q_t_world q_t_world_kind q_t_world_grief q_t_world_bears q_t_world_rota u50.2.1 u50.2.2.2 u50.2.2.1) H := hP
          have hD : va_D A (wc_X1_readLine cy q_t q_t_tape q_t_tape_bytes q_t_world q_t_world_kind q_t_world_grief q_t_world_bears q_t_world_rota u50.2.1 u50.2.2.2 u50.2.2.1) := hD
          obtain ⟨hz1, h⟩ := gq_d h
          obtain rfl := Option.some.inj h
          exact W.zret (v := u50.1) hx hb hr hz1.1 (fun tt ht hW => ⟨⟨u50.1, (u50.2.1, u50.2.2.2, u50.2.2.1), rfl, ⟨rfl, rfl⟩, by rw [ht]; exact hP, kk_warm hW hK, hD⟩, hS.F ht⟩) hS.2.2 dX1_readLine_53
        · replace h := it_p c38 h
          refine lv_aload_n hx hb dX1_readLine_41 rfl (lv_at hl 1 rfl) ?_
          obtain ⟨u42, hc42, h⟩ := bd_d h
          have hPc := hP.sub (ws' := wc_X1_readRota cy q_t q_t_tape q_t_tape_bytes q_t_world q_t_world_kind q_t_world_grief q_t_world_bears q_t_world_rota u2.2 w_t_tape w_t_world) [0, 1, 2, 3, 4, 5, 6, 7] rfl
          have hDc := hD.sub (ws' := wc_X1_readRota cy q_t q_t_tape q_t_tape_bytes q_t_world q_t_world_kind q_t_world_grief q_t_world_bears q_t_world_rota u2.2 w_t_tape w_t_world) [0, 1, 2, 3, 4, 5, 6, 7] (by decide) rfl
          refine cl_i (fun (u : s_R × s_T × s_W) => wc_X1_readLine cy q_t q_t_tape q_t_tape_bytes q_t_world q_t_world_kind q_t_world_grief q_t_world_bears q_t_world_rota u.1 u.2.1 u.2.2) (va_runV (As := []) (rest := []) (C := RX1) ⟨hx, hb, hml, hown, hts⟩ (c_X1_readRota l D cy H.size q_t q_t_tape q_t_tape_bytes q_t_world q_t_world_kind q_t_world_grief q_t_world_bears q_t_world_rota u2.2 w_t_tape w_t_world hc42) ⟨callB_of 0 hts (wg_in k_360) rfl rfl rfl (hts _ (List.mem_cons_of_mem _ k_5)) (hts _ (List.mem_cons_of_mem _ k_357)) (by decide +kernel) ⟨by decide, by decide⟩, (hts _ (List.mem_cons_of_mem _ k_359)), (hts _ (List.mem_cons_of_mem _ ks_9))⟩ ⟨st_blind, va_recv hK.1 hPc (ci := 1) (q0 := 0) rfl rfl, fun U hU hW => st_pre hK hPc hDc hU hW⟩ rfl rfl hl.1 rfl (lv_room (Nat.le_of_ble_eq_true rfl)) dX1_readLine_42 ⟨by decide, by decide⟩) hP hD hS hA [0, 1, 2, 3, 4, 5, 6, 7] [] [0, 1, 2, 3, 4, 5, 6, 7] rfl rfl (by decide) (by decide) (by decide) (fun _ => rfl) (fun r u H locs hw hP hD hS => ?_)
          obtain ⟨rfl, rfl⟩ := hw
          have hP : va_P D vwCl (wc_X1_readLine cy q_t q_t_tape q_t_tape_bytes q_t_world q_t_world_kind q_t_world_grief q_t_world_bears q_t_world_rota u42.2.1 u42.2.2.1 u42.2.2.2) H := hP
          have hD : va_D A (wc_X1_readLine cy q_t q_t_tape q_t_tape_bytes q_t_world q_t_world_kind q_t_world_grief q_t_world_bears q_t_world_rota u42.2.1 u42.2.2.1 u42.2.2.2) := hD
          refine lv_goto (tgt := 53) hx hb dX1_readLine_45 (by decide) ?_
          obtain ⟨hz2, h⟩ := gq_d h
          obtain rfl := Option.some.inj h
          exact W.zret (v := u42.1) hx hb hr hz2.1 (fun tt ht hW => ⟨⟨u42.1, (u42.2.1, u42.2.2.1, u42.2.2.2), rfl, ⟨rfl, rfl⟩, by rw [ht]; exact hP, kk_warm hW hK, hD⟩, hS.F ht⟩) hS.2.2 dX1_readLine_53
      · replace h := it_p c28 h
        refine lv_aload_n hx hb dX1_readLine_31 rfl (lv_at hl 1 rfl) ?_
        obtain ⟨u32, hc32, h⟩ := bd_d h
        have hPc := hP.sub (ws' := wc_X1_readBarrow cy q_t q_t_tape q_t_tape_bytes q_t_world q_t_world_kind q_t_world_grief q_t_world_bears q_t_world_rota u2.2 w_t_tape w_t_world) [0, 1, 2, 3, 4, 5, 6, 7] rfl
        have hDc := hD.sub (ws' := wc_X1_readBarrow cy q_t q_t_tape q_t_tape_bytes q_t_world q_t_world_kind q_t_world_grief q_t_world_bears q_t_world_rota u2.2 w_t_tape w_t_world) [0, 1, 2, 3, 4, 5, 6, 7] (by decide) rfl
        refine cl_i (fun (u : s_R × s_T × s_W) => wc_X1_readLine cy q_t q_t_tape q_t_tape_bytes q_t_world q_t_world_kind q_t_world_grief q_t_world_bears q_t_world_rota u.1 u.2.1 u.2.2) (va_runV (As := []) (rest := []) (C := RX1) ⟨hx, hb, hml, hown, hts⟩ (c_X1_readBarrow l D cy H.size q_t q_t_tape q_t_tape_bytes q_t_world q_t_world_kind q_t_world_grief q_t_world_bears q_t_world_rota u2.2 w_t_tape w_t_world hc32) ⟨callB_of 0 hts (wg_in k_348) rfl rfl rfl (hts _ (List.mem_cons_of_mem _ k_5)) (hts _ (List.mem_cons_of_mem _ k_345)) (by decide +kernel) ⟨by decide, by decide⟩, (hts _ (List.mem_cons_of_mem _ k_347)), (hts _ (List.mem_cons_of_mem _ ks_6))⟩ ⟨st_blind, va_recv hK.1 hPc (ci := 1) (q0 := 0) rfl rfl, fun U hU hW => st_pre hK hPc hDc hU hW⟩ rfl rfl hl.1 rfl (lv_room (Nat.le_of_ble_eq_true rfl)) dX1_readLine_32 ⟨by decide, by decide⟩) hP hD hS hA [0, 1, 2, 3, 4, 5, 6, 7] [] [0, 1, 2, 3, 4, 5, 6, 7] rfl rfl (by decide) (by decide) (by decide) (fun _ => rfl) (fun r u H locs hw hP hD hS => ?_)
        obtain ⟨rfl, rfl⟩ := hw
        have hP : va_P D vwCl (wc_X1_readLine cy q_t q_t_tape q_t_tape_bytes q_t_world q_t_world_kind q_t_world_grief q_t_world_bears q_t_world_rota u32.2.1 u32.2.2.1 u32.2.2.2) H := hP
        have hD : va_D A (wc_X1_readLine cy q_t q_t_tape q_t_tape_bytes q_t_world q_t_world_kind q_t_world_grief q_t_world_bears q_t_world_rota u32.2.1 u32.2.2.1 u32.2.2.2) := hD
        obtain ⟨hz3, h⟩ := gq_d h
        obtain rfl := Option.some.inj h
        exact W.zret (v := u32.1) hx hb hr hz3.1 (fun tt ht hW => ⟨⟨u32.1, (u32.2.1, u32.2.2.1, u32.2.2.2), rfl, ⟨rfl, rfl⟩, by rw [ht]; exact hP, kk_warm hW hK, hD⟩, hS.F ht⟩) hS.2.2 dX1_readLine_35
    · replace h := it_p c17 h
      refine lv_aload_n hx hb dX1_readLine_20 rfl (lv_at hl 1 rfl) ?_
      refine lv_iconst (v := 2) hx hb dX1_readLine_21 (by decide) ?_
      obtain ⟨u22, hc22, h⟩ := bd_d h
      have hPc := hP.sub (ws' := wc_X1_refuse cy q_t q_t_tape q_t_world u2.2) [0] rfl
      have hDc := hD.sub (ws' := wc_X1_refuse cy q_t q_t_tape q_t_world u2.2) [0] (by decide) rfl
      refine cl_i (fun (u : s_R) => wc_X1_readLine cy q_t q_t_tape q_t_tape_bytes q_t_world q_t_world_kind q_t_world_grief q_t_world_bears q_t_world_rota u w_t_tape w_t_world) (va_runV (As := [.int 2]) (rest := []) (C := RX1) ⟨hx, hb, hml, hown, hts⟩ (c_X1_refuse l D cy H.size q_t q_t_tape q_t_world u2.2 2 hc22) ⟨callB_of 1 hts (wg_in k_282) rfl rfl rfl (hts _ (List.mem_cons_of_mem _ k_5)) (hts _ (List.mem_cons_of_mem _ k_279)) (by decide +kernel) ⟨by decide, by decide⟩, (hts _ (List.mem_cons_of_mem _ k_281)), (hts _ (List.mem_cons_of_mem _ ks_4))⟩ ⟨st_blind, va_recv hK.1 hPc (ci := 1) (q0 := 0) rfl rfl, fun U hU hW => st_pre hK hPc hDc hU hW⟩ rfl rfl hl.1 rfl (lv_room (Nat.le_of_ble_eq_true rfl)) dX1_readLine_22 ⟨by decide, by decide⟩) hP hD hS hA [0] [1, 2, 3, 4, 5, 6, 7] [7, 0, 1, 2, 3, 4, 5, 6] rfl rfl (by decide) (by decide) (by decide) (fun _ => rfl) (fun r u H locs hw hP hD hS => ?_)
      obtain ⟨rfl, rfl⟩ := hw
      have hP : va_P D vwCl (wc_X1_readLine cy q_t q_t_tape q_t_tape_bytes q_t_world q_t_world_kind q_t_world_grief q_t_world_bears q_t_world_rota u22.2 w_t_tape w_t_world) H := hP
      have hD : va_D A (wc_X1_readLine cy q_t q_t_tape q_t_tape_bytes q_t_world q_t_world_kind q_t_world_grief q_t_world_bears q_t_world_rota u22.2 w_t_tape w_t_world) := hD
      obtain ⟨hz4, h⟩ := gq_d h
      obtain rfl := Option.some.inj h
      exact W.zret (v := u22.1) hx hb hr hz4.1 (fun tt ht hW => ⟨⟨u22.1, (u22.2, w_t_tape, w_t_world), rfl, ⟨rfl, rfl⟩, by rw [ht]; exact hP, kk_warm hW hK, hD⟩, hS.F ht⟩) hS.2.2 dX1_readLine_25
  · replace h := it_p c5 h
    refine lv_iconst (v := 0) hx hb dX1_readLine_8 (by decide) ?_
    obtain rfl := Option.some.inj h
    exact W.zret (v := 0) hx hb hr (by decide) (fun tt ht hW => ⟨⟨0, (u2.2, w_t_tape, w_t_world), rfl, ⟨rfl, rfl⟩, by rw [ht]; exact hP, kk_warm hW hK, hD⟩, hS.F ht⟩) hS.2.2 dX1_readLine_9
def M_X1_readLine   (f : Nat) (w_t : s_R) (w_t_tape : s_T) (w_t_world : s_W)  : Option (Int32 × s_R × s_T × s_W) := B_X1_readLine_0 f w_t w_t_tape w_t_world
set_option maxHeartbeats 4000000 in
set_option maxRecDepth 100000 in
theorem c_X1_readLine (l : Launch) (D : va_G) (cy : Nat → ClassId) (sz : Nat) (X : (Nat → Nat) × (Nat → Nat)) (q_t : Nat) (q_t_tape : Nat) (q_t_tape_bytes : Nat) (q_t_world : Nat) (q_t_world_kind : Nat) (q_t_world_grief : Nat) (q_t_world_bears : Nat) (q_t_world_rota : Nat) (w_t : s_R) (w_t_tape : s_T) (w_t_world : s_W)  {f : Nat} {res : Int32 × s_R × s_T × s_W} (h : M_X1_readLine f w_t w_t_tape w_t_world = some res) : cx_i l yX1_readLine (.code yX1_readLine cX1_readLine 2 ((some .boolean)) :: wg_L) rm_X1_readLine D cy sz X (wc_X1_readLine cy q_t q_t_tape q_t_tape_bytes q_t_world q_t_world_kind q_t_world_grief q_t_world_bears q_t_world_rota w_t w_t_tape w_t_world) [.ref q_t] (fun r (u : s_R × s_T × s_W) => r = res.1 ∧ u = res.2) (fun (u : s_R × s_T × s_W) => wc_X1_readLine cy q_t q_t_tape q_t_tape_bytes q_t_world q_t_world_kind q_t_world_grief q_t_world_bears q_t_world_rota u.1 u.2.1 u.2.2) := by
  refine Met.ofW (cc := cX1_readLine) (maxL := 2) (ret := (some .boolean)) (by decide) rfl ?_
  intro p e s m args below meth c s₁ B hml hv
  obtain ⟨rfl, hsz, hP, hK, hD0, hE⟩ := hv
  subst hsz
  have hD := hD0.self (sz := s.heap.size)
  have hl := lv_entry ([.ref q_t]) (n := 2) (Nat.le_of_ble_eq_true rfl)
  rw [lg_entry_eq]
  have C0 : cx_C cX1_readLine ((some .boolean)) 2 RX1 (.code yX1_readLine cX1_readLine 2 ((some .boolean)) :: wg_L) p s m [.ref q_t].toArray meth c D cy (va_A (wc_X1_readLine cy q_t q_t_tape q_t_tape_bytes q_t_world q_t_world_kind q_t_world_grief q_t_world_bears q_t_world_rota w_t w_t_tape w_t_world) s.heap.size) := ⟨B.exec, B.bytes, B.returns, hml, findClass_of_methodNamed B.named, atoms_spec (ws := .code yX1_readLine cX1_readLine 2 ((some .boolean)) :: wg_L) B.pre, hK, B.notSynchronized, fun q h => Or.inr h⟩
  exact b_X1_readLine_0 C0 hE h hP hD va_S.rf (lv_sub hl [0] rfl)
/-! ### BarrowGrief$Reader.tell()I -/
abbrev wc_X1_tell (cy : Nat → ClassId) (q_t q_t_world q_t_world_kind q_t_world_grief q_t_world_bears q_t_world_rota q_t_tape q_t_tape_bytes : Nat) (w_t : s_R) (w_t_world : s_W) (w_t_tape : s_T) : va_W := [(q_t, .inr (1, [.ref q_t_tape, .ref q_t_world, .int w_t.1, .int w_t.2.1, .int w_t.2.2])), (q_t_world, .inr (5, [.ref q_t_world_kind, .ref q_t_world_grief, .ref q_t_world_bears, .ref q_t_world_rota, .int w_t_world.1, .int w_t_world.2.1, .int w_t_world.2.2.1, .int w_t_world.2.2.2.1, .int w_t_world.2.2.2.2.1, .int w_t_world.2.2.2.2.2.1, .int w_t_world.2.2.2.2.2.2.1])), (q_t_world_kind, .inl (cy 1, 5, .inl w_t_world.2.2.2.2.2.2.2.1)), (q_t_world_grief, .inl (cy 1, 5, .inl w_t_world.2.2.2.2.2.2.2.2.1)), (q_t_world_bears, .inl (cy 1, 5, .inl w_t_world.2.2.2.2.2.2.2.2.2.1)), (q_t_world_rota, .inl (cy 1, 8, .inl w_t_world.2.2.2.2.2.2.2.2.2.2)), (q_t_tape, .inr (4, [.ref q_t_tape_bytes, .int w_t_tape.1, .int w_t_tape.2.1, .int w_t_tape.2.2.1, .int w_t_tape.2.2.2.1, .int w_t_tape.2.2.2.2.1])), (q_t_tape_bytes, .inl (cy 0, 160, .inl w_t_tape.2.2.2.2.2))]
abbrev rm_X1_tell : Room := { frames := 7, cells := 0, slots := 0, locals := 163 }
abbrev qq_X1_tell (below : List Frame) (args : Array Value) (s : State) (D : va_G) (cy : Nat → ClassId) (A : Nat → Prop) (q_t : Nat) (q_t_world : Nat) (q_t_world_kind : Nat) (q_t_world_grief : Nat) (q_t_world_bears : Nat) (q_t_world_rota : Nat) (q_t_tape : Nat) (q_t_tape_bytes : Nat) (res : Int32 × s_R × s_W × s_T) : State → Prop := MQ below (va_Qi (fun r (u : s_R × s_W × s_T) => r = res.1 ∧ u = res.2) (fun u t => st_B D cy A ((fun (u : s_R × s_W × s_T) => wc_X1_tell cy q_t q_t_world q_t_world_kind q_t_world_grief q_t_world_bears q_t_world_rota q_t_tape q_t_tape_bytes u.1 u.2.1 u.2.2) u) t) A) args s 0 0 A
def B_X1_tell_89 (k89 : s_R → s_W → s_T → Int32 → Int32 → Option (Int32 × s_R × s_W × s_T))  (f : Nat) (w_t : s_R) (w_t_world : s_W) (w_t_tape : s_T) (v1 : Int32) (v2 : Int32) : Option (Int32 × s_R × s_W × s_T) := if w_t_world.2.1 ≤ v2 then (some (v1, w_t, w_t_world, w_t_tape)) else (gi_n v2 8 ((M_X5_has w_t_world (w_t_world.2.2.2.2.2.2.2.2.2.2 v2.toNatClampNeg)).bind (fun u113 => if u113 = 0 then (some (((-10) - w_t_tape.1), (w_t.1, w_t.2.1, 6), w_t_world, w_t_tape)) else (k89 w_t w_t_world w_t_tape v1 (v2 + 1)))))
set_option maxHeartbeats 4000000 in
set_option maxRecDepth 100000 in
theorem b_X1_tell_89 {p : Program} {l : Launch} {e : Env} {s : State} {m : MethodId} {args : Array Value} {below : List Frame} {meth : Method} {c : Code} {D : va_G} {cy : Nat → ClassId} {A : Nat → Prop} {X : (Nat → Nat) × (Nat → Nat)} {q_t : Nat} {q_t_world : Nat} {q_t_world_kind : Nat} {q_t_world_grief : Nat} {q_t_world_bears : Nat} {q_t_world_rota : Nat} {q_t_tape : Nat} {q_t_tape_bytes : Nat} {res : Int32 × s_R × s_W × s_T} {k89 : s_R → s_W → s_T → Int32 → Int32 → Option (Int32 × s_R × s_W × s_T)} {f : Nat} {w_t : s_R} {w_t_world : s_W} {w_t_tape : s_T} {v1 : Int32} {v2 : Int32} (C0 : cx_C cX1_tell ((some .int)) 3 RX1 (.code yX1_tell cX1_tell 3 ((some .int)) :: wg_L) p s m args meth c D cy A) (E0 : sx_E X A s s.heap) (hk89 : ∀ (w_t : s_R) (w_t_world : s_W) (w_t_tape : s_T) (v1 : Int32) (v2 : Int32), k89 w_t w_t_world w_t_tape v1 v2 = some res → ∀ (H : Heap) (locs : List Loc) (ls : Array Slot), va_P D vwCl (wc_X1_tell cy q_t q_t_world q_t_world_kind q_t_world_grief q_t_world_bears q_t_world_rota q_t_tape q_t_tape_bytes w_t w_t_world w_t_tape) H → va_D A (wc_X1_tell cy q_t q_t_world q_t_world_kind q_t_world_grief q_t_world_bears q_t_world_rota q_t_tape q_t_tape_bytes w_t w_t_world w_t_tape) → va_S A s.heap H locs → lv_has ls 3 [(0, .ref q_t), (1, .int v1), (2, .int v2)] → W p l e rm_X1_tell s m args below meth c H locs 0 0 (qq_X1_tell below args s D cy A q_t q_t_world q_t_world_kind q_t_world_grief q_t_world_bears q_t_world_rota q_t_tape q_t_tape_bytes res) (F0 m 89 ls [])) (h : B_X1_tell_89 k89 f w_t w_t_world w_t_tape v1 v2 = some res) {H : Heap} {locs : List Loc} {ls : Array Slot} (hP : va_P D vwCl (wc_X1_tell cy q_t q_t_world q_t_world_kind q_t_world_grief q_t_world_bears q_t_world_rota q_t_tape q_t_tape_bytes w_t w_t_world w_t_tape) H) (hD : va_D A (wc_X1_tell cy q_t q_t_world q_t_world_kind q_t_world_grief q_t_world_bears q_t_world_rota q_t_tape q_t_tape_bytes w_t w_t_world w_t_tape)) (hS : va_S A s.heap H locs) (hl : lv_has ls 3 [(0, .ref q_t), (1, .int v1), (2, .int v2)]) : W p l e rm_X1_tell s m args below meth c H locs 0 0 (qq_X1_tell below args s D cy A q_t q_t_world q_t_world_kind q_t_world_grief q_t_world_bears q_t_world_rota q_t_tape q_t_tape_bytes res) (F0 m 89 ls []) := by
  obtain ⟨hx, hb, hr, hml, hown, hts, hK, hlocks, hA⟩ := id C0
  unfold B_X1_tell_89 at h
  refine lv_iload_n hx hb dX1_tell_89 rfl (lv_at hl 2 rfl) ?_
  refine lv_aload_n hx hb dX1_tell_90 rfl (lv_at hl 0 rfl) ?_
  refine va_get (D := D) (ci := 1) (v := .ref q_t_world) (C := RX1) (T := TX1) (N := 5) hx hb hts (fun w hw => List.mem_cons_of_mem _ (uw_X1 w hw)) hown hK.1 hP 0 rfl rfl 1 (by decide) (hts _ (List.mem_cons_of_mem _ k_148)) (fun _ h9 => h9) rfl dX1_tell_91 ?_
  refine va_get (D := D) (ci := 5) (v := .int w_t_world.2.1) (C := RX5) (T := TX5) (N := 11) hx hb hts (fun w hw => List.mem_cons_of_mem _ (uw_X5 w hw)) hown hK.1 hP 1 rfl rfl 5 (by decide) (hts _ (List.mem_cons_of_mem _ k_45)) (fun _ h9 => h9) rfl dX1_tell_94 ?_
  refine lv_icmp_ge (tgt := 142) hx hb dX1_tell_97 (by decide) (fun c97 => ?_) (fun c97 => ?_)
  · replace h := it_p c97 h
    refine lv_iload_n hx hb dX1_tell_142 rfl (lv_at hl 1 rfl) ?_
    obtain rfl := Option.some.inj h
    exact W.iret (v := v1) hx hb hr (fun tt ht hW => ⟨⟨v1, (w_t, w_t_world, w_t_tape), rfl, ⟨rfl, rfl⟩, by rw [ht]; exact hP, kk_warm hW hK, hD⟩, hS.F ht⟩) hS.2.2 dX1_tell_143
  · replace h := it_n c97 h
    refine lv_aload_n hx hb dX1_tell_100 rfl (lv_at hl 0 rfl) ?_
    refine va_get (D := D) (ci := 1) (v := .ref q_t_world) (C := RX1) (T := TX1) (N := 5) hx hb hts (fun w hw => List.mem_cons_of_mem _ (uw_X1 w hw)) hown hK.1 hP 0 rfl rfl 1 (by decide) (hts _ (List.mem_cons_of_mem _ k_148)) (fun _ h9 => h9) rfl dX1_tell_101 ?_
    refine lv_aload_n hx hb dX1_tell_104 rfl (lv_at hl 0 rfl) ?_
    refine va_get (D := D) (ci := 1) (v := .ref q_t_world) (C := RX1) (T := TX1) (N := 5) hx hb hts (fun w hw => List.mem_cons_of_mem _ (uw_X1 w hw)) hown hK.1 hP 0 rfl rfl 1 (by decide) (hts _ (List.mem_cons_of_mem _ k_148)) (fun _ h9 => h9) rfl dX1_tell_105 ?_
    refine va_get (D := D) (ci := 5) (v := .ref q_t_world_rota) (C := RX5) (T := TX5) (N := 11) hx hb hts (fun w hw => List.mem_cons_of_mem _ (uw_X5 w hw)) hown hK.1 hP 1 rfl rfl 3 (by decide) (hts _ (List.mem_cons_of_mem _ k_39)) (fun _ h9 => h9) rfl dX1_tell_108 ?_
    refine lv_iload_n hx hb dX1_tell_111 rfl (lv_at hl 2 rfl) ?_
    obtain ⟨hi1, h⟩ := gi_d h
    refine va_iald hx hb hK.1 hP 5 1 rfl rfl hi1 dX1_tell_112 ?_
    obtain ⟨u113, hc113, h⟩ := bd_d h
    have hPc := hP.sub (ws' := wc_X5_has cy q_t_world q_t_world_kind q_t_world_grief q_t_world_bears q_t_world_rota w_t_world) [1, 2, 3, 4, 5] rfl
    have hDc := hD.sub (ws' := wc_X5_has cy q_t_world q_t_world_kind q_t_world_grief q_t_world_bears q_t_world_rota w_t_world) [1, 2, 3, 4, 5] (by decide) rfl
    refine cl_i (fun (u : Unit) => wc_X1_tell cy q_t q_t_world q_t_world_kind q_t_world_grief q_t_world_bears q_t_world_rota q_t_tape q_t_tape_bytes w_t w_t_world w_t_tape) (va_runV (As := [.int (w_t_world.2.2.2.2.2.2.2.2.2.2 v2.toNatClampNeg)]) (rest := []) (C := RX5) ⟨hx, hb, hml, hown, hts⟩ (c_X5_has l D cy H.size q_t_world q_t_world_kind q_t_world_grief q_t_world_bears q_t_world_rota w_t_world (w_t_world.2.2.2.2.2.2.2.2.2.2 v2.toNatClampNeg) hc113) ⟨callB_of 1 hts (wg_in k_376) rfl rfl rfl (hts _ (List.mem_cons_of_mem _ k_2)) (hts _ (List.mem_cons_of_mem _ k_373)) (by decide +kernel) ⟨by decide, by decide⟩, (hts _ (List.mem_cons_of_mem _ k_374)), (hts _ (List.mem_cons_of_mem _ k_375))⟩ ⟨st_blind, va_recv hK.1 hPc (ci := 5) (q0 := 0) rfl rfl, fun U hU hW => st_pre hK hPc hDc hU hW⟩ rfl rfl hl.1 rfl (lv_room (Nat.le_of_ble_eq_true rfl)) dX1_tell_113 ⟨by decide, by decide⟩) hP hD hS hA [1, 2, 3, 4, 5] [0, 6, 7] [0, 3, 4, 5, 6, 7, 1, 2] rfl rfl (by decide) (by decide) (by decide) (fun _ => rfl) (fun r u H locs hw hP hD hS => ?_)
    obtain rfl := hw.symm
    refine lv_if_ne (tgt := 136) hx hb dX1_tell_116 (by decide) (fun c116 => ?_) (fun c116 => ?_)
    · replace h := it_n c116 h
      refine lv_iinc (v := (v2 + 1)) (lv' := [(2, .int (v2 + 1)), (0, .ref q_t), (1, .int v1)]) hx hb dX1_tell_136 hl (k := 2) rfl (by rfl) (by decide) rfl (fun ls hl => ?_)
      refine lv_goto (tgt := 89) hx hb dX1_tell_139 (by decide) ?_
      exact hk89 _ _ _ _ _ h _ _ _ hP hD hS (lv_sub hl [1, 2, 0] rfl)
    · replace h := it_p c116 h
      refine lv_aload_n hx hb dX1_tell_119 rfl (lv_at hl 0 rfl) ?_
      refine lv_bipush (v := 6) hx hb dX1_tell_120 (by decide) ?_
      refine va_put (D := D) (ci := 1) (v := .int 6) (ty := .int) (C := RX1) (T := TX1) (N := 5) hx hb hts (fun w hw => List.mem_cons_of_mem _ (uw_X1 w hw)) tyX1 tyX1_ok nmX1 hown hK.1 hP hD hS 0 rfl rfl 4 (by decide) (hts _ (List.mem_cons_of_mem _ k_151)) (fun _ h9 => h9) rfl (by decide +kernel) rfl rfl (Nat.le_of_ble_eq_true rfl) dX1_tell_122 (fun H locs hP hD hS => ?_)
      have hP : va_P D vwCl (wc_X1_tell cy q_t q_t_world q_t_world_kind q_t_world_grief q_t_world_bears q_t_world_rota q_t_tape q_t_tape_bytes (w_t.1, w_t.2.1, 6) w_t_world w_t_tape) H := hP
      have hD : va_D A (wc_X1_tell cy q_t q_t_world q_t_world_kind q_t_world_grief q_t_world_bears q_t_world_rota q_t_tape q_t_tape_bytes (w_t.1, w_t.2.1, 6) w_t_world w_t_tape) := hD
      refine lv_bipush (v := (-10)) hx hb dX1_tell_125 (by decide) ?_
      refine lv_aload_n hx hb dX1_tell_127 rfl (lv_at hl 0 rfl) ?_
      refine va_get (D := D) (ci := 1) (v := .ref q_t_tape) (C := RX1) (T := TX1) (N := 5) hx hb hts (fun w hw => List.mem_cons_of_mem _ (uw_X1 w hw)) hown hK.1 hP 0 rfl rfl 0 (by decide) (hts _ (List.mem_cons_of_mem _ k_147)) (fun _ h9 => h9) rfl dX1_tell_128 ?_
      refine va_get (D := D) (ci := 4) (v := .int w_t_tape.1) (C := RX4) (T := TX4) (N := 6) hx hb hts (fun w hw => List.mem_cons_of_mem _ (uw_X4 w hw)) hown hK.1 hP 6 rfl rfl 1 (by decide) (hts _ (List.mem_cons_of_mem _ k_118)) (fun _ h9 => h9) rfl dX1_tell_131 ?_
      refine lv_isub hx hb dX1_tell_134 ?_
      obtain rfl := Option.some.inj h
      exact W.iret (v := ((-10) - w_t_tape.1)) hx hb hr (fun tt ht hW => ⟨⟨((-10) - w_t_tape.1), ((w_t.1, w_t.2.1, 6), w_t_world, w_t_tape), rfl, ⟨rfl, rfl⟩, by rw [ht]; exact hP, kk_warm hW hK, hD⟩, hS.F ht⟩) hS.2.2 dX1_tell_135
def M_X1_tell_89   : Nat → s_R → s_W → s_T → Int32 → Int32 → Option (Int32 × s_R × s_W × s_T)
  | 0, _, _, _, _, _ => none
  | f + 1, w_t, w_t_world, w_t_tape, v1, v2 => B_X1_tell_89 (M_X1_tell_89 f) f w_t w_t_world w_t_tape v1 v2
theorem t_X1_tell_89 {p : Program} {l : Launch} {e : Env} {s : State} {m : MethodId} {args : Array Value} {below : List Frame} {meth : Method} {c : Code} {D : va_G} {cy : Nat → ClassId} {A : Nat → Prop} {X : (Nat → Nat) × (Nat → Nat)} {q_t : Nat} {q_t_world : Nat} {q_t_world_kind : Nat} {q_t_world_grief : Nat} {q_t_world_bears : Nat} {q_t_world_rota : Nat} {q_t_tape : Nat} {q_t_tape_bytes : Nat} {res : Int32 × s_R × s_W × s_T}  (C0 : cx_C cX1_tell ((some .int)) 3 RX1 (.code yX1_tell cX1_tell 3 ((some .int)) :: wg_L) p s m args meth c D cy A) (E0 : sx_E X A s s.heap)  : ∀ (f : Nat) (w_t : s_R) (w_t_world : s_W) (w_t_tape : s_T) (v1 : Int32) (v2 : Int32), M_X1_tell_89 f w_t w_t_world w_t_tape v1 v2 = some res → ∀ (H : Heap) (locs : List Loc) (ls : Array Slot), va_P D vwCl (wc_X1_tell cy q_t q_t_world q_t_world_kind q_t_world_grief q_t_world_bears q_t_world_rota q_t_tape q_t_tape_bytes w_t w_t_world w_t_tape) H → va_D A (wc_X1_tell cy q_t q_t_world q_t_world_kind q_t_world_grief q_t_world_bears q_t_world_rota q_t_tape q_t_tape_bytes w_t w_t_world w_t_tape) → va_S A s.heap H locs → lv_has ls 3 [(0, .ref q_t), (1, .int v1), (2, .int v2)] → W p l e rm_X1_tell s m args below meth c H locs 0 0 (qq_X1_tell below args s D cy A q_t q_t_world q_t_world_kind q_t_world_grief q_t_world_bears q_t_world_rota q_t_tape q_t_tape_bytes res) (F0 m 89 ls []) := by
  intro f
  induction f with
  | zero =>
    intro _ _ _ _ _ h
    exact absurd (show (none : Option (Int32 × s_R × s_W × s_T)) = some res from h) (fun q => by cases q)
  | succ f ih =>
    intro w_t w_t_world w_t_tape v1 v2 h H locs ls hP hD hS hl
    have h : B_X1_tell_89 (M_X1_tell_89 f) f w_t w_t_world w_t_tape v1 v2 = some res := h
    exact b_X1_tell_89 C0 E0 ih h hP hD hS hl
def B_X1_tell_87   (f : Nat) (w_t : s_R) (w_t_world : s_W) (w_t_tape : s_T) (v1 : Int32) : Option (Int32 × s_R × s_W × s_T) := M_X1_tell_89 f w_t w_t_world w_t_tape v1 0
set_option maxHeartbeats 4000000 in
set_option maxRecDepth 100000 in
theorem b_X1_tell_87 {p : Program} {l : Launch} {e : Env} {s : State} {m : MethodId} {args : Array Value} {below : List Frame} {meth : Method} {c : Code} {D : va_G} {cy : Nat → ClassId} {A : Nat → Prop} {X : (Nat → Nat) × (Nat → Nat)} {q_t : Nat} {q_t_world : Nat} {q_t_world_kind : Nat} {q_t_world_grief : Nat} {q_t_world_bears : Nat} {q_t_world_rota : Nat} {q_t_tape : Nat} {q_t_tape_bytes : Nat} {res : Int32 × s_R × s_W × s_T}  {f : Nat} {w_t : s_R} {w_t_world : s_W} {w_t_tape : s_T} {v1 : Int32} (C0 : cx_C cX1_tell ((some .int)) 3 RX1 (.code yX1_tell cX1_tell 3 ((some .int)) :: wg_L) p s m args meth c D cy A) (E0 : sx_E X A s s.heap)  (h : B_X1_tell_87 f w_t w_t_world w_t_tape v1 = some res) {H : Heap} {locs : List Loc} {ls : Array Slot} (hP : va_P D vwCl (wc_X1_tell cy q_t q_t_world q_t_world_kind q_t_world_grief q_t_world_bears q_t_world_rota q_t_tape q_t_tape_bytes w_t w_t_world w_t_tape) H) (hD : va_D A (wc_X1_tell cy q_t q_t_world q_t_world_kind q_t_world_grief q_t_world_bears q_t_world_rota q_t_tape q_t_tape_bytes w_t w_t_world w_t_tape)) (hS : va_S A s.heap H locs) (hl : lv_has ls 3 [(0, .ref q_t), (1, .int v1)]) : W p l e rm_X1_tell s m args below meth c H locs 0 0 (qq_X1_tell below args s D cy A q_t q_t_world q_t_world_kind q_t_world_grief q_t_world_bears q_t_world_rota q_t_tape q_t_tape_bytes res) (F0 m 87 ls []) := by
  obtain ⟨hx, hb, hr, hml, hown, hts, hK, hlocks, hA⟩ := id C0
  unfold B_X1_tell_87 at h
  refine lv_iconst (v := 0) hx hb dX1_tell_87 (by decide) ?_
  refine lv_istore_n (lv' := [(2, .int 0), (0, .ref q_t), (1, .int v1)]) hx hb dX1_tell_88 rfl hl (by decide) rfl (fun ls hl => ?_)
  exact t_X1_tell_89 C0 E0 _ _ _ _ _ _ h _ _ _ hP hD hS (lv_sub hl [1, 2, 0] rfl)
def B_X1_tell_39 (k39 : s_R → s_W → s_T → Int32 → Option (Int32 × s_R × s_W × s_T))  (f : Nat) (w_t : s_R) (w_t_world : s_W) (w_t_tape : s_T) (v1 : Int32) : Option (Int32 × s_R × s_W × s_T) := if w_t_tape.2.2.1 = 0 then (B_X1_tell_87 f w_t w_t_world w_t_tape v1) else (if 160 ≤ v1 then (B_X1_tell_87 f w_t w_t_world w_t_tape v1) else ((M_X1_readLine f w_t w_t_tape w_t_world).bind (fun u57 => if u57.1 = 0 then (some (((-10) - u57.2.2.1.2.2.2.1), u57.2.1, u57.2.2.2, u57.2.2.1)) else ((M_X4_advance f u57.2.2.1).bind (fun u81 => k39 u57.2.1 u57.2.2.2 u81 (v1 + 1))))))
set_option maxHeartbeats 4000000 in
set_option maxRecDepth 100000 in
theorem b_X1_tell_39 {p : Program} {l : Launch} {e : Env} {s : State} {m : MethodId} {args : Array Value} {below : List Frame} {meth : Method} {c : Code} {D : va_G} {cy : Nat → ClassId} {A : Nat → Prop} {X : (Nat → Nat) × (Nat → Nat)} {q_t : Nat} {q_t_world : Nat} {q_t_world_kind : Nat} {q_t_world_grief : Nat} {q_t_world_bears : Nat} {q_t_world_rota : Nat} {q_t_tape : Nat} {q_t_tape_bytes : Nat} {res : Int32 × s_R × s_W × s_T} {k39 : s_R → s_W → s_T → Int32 → Option (Int32 × s_R × s_W × s_T)} {f : Nat} {w_t : s_R} {w_t_world : s_W} {w_t_tape : s_T} {v1 : Int32} (C0 : cx_C cX1_tell ((some .int)) 3 RX1 (.code yX1_tell cX1_tell 3 ((some .int)) :: wg_L) p s m args meth c D cy A) (E0 : sx_E X A s s.heap) (hk39 : ∀ (w_t : s_R) (w_t_world : s_W) (w_t_tape : s_T) (v1 : Int32), k39 w_t w_t_world w_t_tape v1 = some res → ∀ (H : Heap) (locs : List Loc) (ls : Array Slot), va_P D vwCl (wc_X1_tell cy q_t q_t_world q_t_world_kind q_t_world_grief q_t_world_bears q_t_world_rota q_t_tape q_t_tape_bytes w_t w_t_world w_t_tape) H → va_D A (wc_X1_tell cy q_t q_t_world q_t_world_kind q_t_world_grief q_t_world_bears q_t_world_rota q_t_tape q_t_tape_bytes w_t w_t_world w_t_tape) → va_S A s.heap H locs → lv_has ls 3 [(0, .ref q_t), (1, .int v1)] → W p l e rm_X1_tell s m args below meth c H locs 0 0 (qq_X1_tell below args s D cy A q_t q_t_world q_t_world_kind q_t_world_grief q_t_world_bears q_t_world_rota q_t_tape q_t_tape_bytes res) (F0 m 39 ls [])) (h : B_X1_tell_39 k39 f w_t w_t_world w_t_tape v1 = some res) {H : Heap} {locs : List Loc} {ls : Array Slot} (hP : va_P D vwCl (wc_X1_tell cy q_t q_t_world q_t_world_kind q_t_world_grief q_t_world_bears q_t_world_rota q_t_tape q_t_tape_bytes w_t w_t_world w_t_tape) H) (hD : va_D A (wc_X1_tell cy q_t q_t_world q_t_world_kind q_t_world_grief q_t_world_bears q_t_world_rota q_t_tape q_t_tape_bytes w_t w_t_world w_t_tape)) (hS : va_S A s.heap H locs) (hl : lv_has ls 3 [(0, .ref q_t), (1, .int v1)]) : W p l e rm_X1_tell s m args below meth c H locs 0 0 (qq_X1_tell below args s D cy A q_t q_t_world q_t_world_kind q_t_world_grief q_t_world_bears q_t_world_rota q_t_tape q_t_tape_bytes res) (F0 m 39 ls []) := by
  obtain ⟨hx, hb, hr, hml, hown, hts, hK, hlocks, hA⟩ := id C0
  unfold B_X1_tell_39 at h
  refine lv_aload_n hx hb dX1_tell_39 rfl (lv_at hl 0 rfl) ?_
  refine va_get (D := D) (ci := 1) (v := .ref q_t_tape) (C := RX1) (T := TX1) (N := 5) hx hb hts (fun w hw => List.mem_cons_of_mem _ (uw_X1 w hw)) hown hK.1 hP 0 rfl rfl 0 (by decide) (hts _ (List.mem_cons_of_mem _ k_147)) (fun _ h9 => h9) rfl dX1_tell_40 ?_
  refine va_get (D := D) (ci := 4) (v := .int w_t_tape.2.2.1) (C := RX4) (T := TX4) (N := 6) hx hb hts (fun w hw => List.mem_cons_of_mem _ (uw_X4 w hw)) hown hK.1 hP 6 rfl rfl 3 (by decide) (hts _ (List.mem_cons_of_mem _ k_121)) (fun _ h9 => h9) rfl dX1_tell_43 ?_
  refine lv_if_eq (tgt := 87) hx hb dX1_tell_46 (by decide) (fun c46 => ?_) (fun c46 => ?_)
  · replace h := it_p c46 h
    exact b_X1_tell_87 C0 E0 h hP hD hS (lv_sub hl [0, 1] rfl)
  · replace h := it_n c46 h
    refine lv_iload_n hx hb dX1_tell_49 rfl (lv_at hl 1 rfl) ?_
    refine lv_sipush (v := 160) hx hb dX1_tell_50 (by decide) ?_
    refine lv_icmp_ge (tgt := 87) hx hb dX1_tell_53 (by decide) (fun c53 => ?_) (fun c53 => ?_)
    · replace h := it_p c53 h
      exact b_X1_tell_87 C0 E0 h hP hD hS (lv_sub hl [0, 1] rfl)
    · replace h := it_n c53 h
      refine lv_aload_n hx hb dX1_tell_56 rfl (lv_at hl 0 rfl) ?_
      obtain ⟨u57, hc57, h⟩ := bd_d h
      have hPc := hP.sub (ws' := wc_X1_readLine cy q_t q_t_tape q_t_tape_bytes q_t_world q_t_world_kind q_t_world_grief q_t_world_bears q_t_world_rota w_t w_t_tape w_t_world) [0, 6, 7, 1, 2, 3, 4, 5] rfl
      have hDc := hD.sub (ws' := wc_X1_readLine cy q_t q_t_tape q_t_tape_bytes q_t_world q_t_world_kind q_t_world_grief q_t_world_bears q_t_world_rota w_t w_t_tape w_t_world) [0, 6, 7, 1, 2, 3, 4, 5] (by decide) rfl
      have hEc := sx_nar (sx_kept E0 hS.2.1) (va_free (wc := wc_X1_readLine cy q_t q_t_tape q_t_tape_bytes q_t_world q_t_world_kind q_t_world_grief q_t_world_bears q_t_world_rota w_t w_t_tape w_t_world) hD hS hA [0, 6, 7, 1, 2, 3, 4, 5] rfl)
      refine cl_i (fun (u : s_R × s_T × s_W) => wc_X1_tell cy q_t q_t_world q_t_world_kind q_t_world_grief q_t_world_bears q_t_world_rota q_t_tape q_t_tape_bytes u.1 u.2.2 u.2.1) (va_runV (As := []) (rest := []) (C := RX1) ⟨hx, hb, hml, hown, hts⟩ (c_X1_readLine l D cy H.size X q_t q_t_tape q_t_tape_bytes q_t_world q_t_world_kind q_t_world_grief q_t_world_bears q_t_world_rota w_t w_t_tape w_t_world hc57) ⟨callB_of 0 hts (wg_in k_274) rfl rfl rfl (hts _ (List.mem_cons_of_mem _ k_5)) (hts _ (List.mem_cons_of_mem _ k_271)) (by decide +kernel) ⟨by decide, by decide⟩, (hts _ (List.mem_cons_of_mem _ k_273)), (hts _ (List.mem_cons_of_mem _ ks_2))⟩ ⟨sx_blind, va_recv hK.1 hPc (ci := 1) (q0 := 0) rfl rfl, fun U hU hW => sx_pre hK hPc hDc hEc hU hW⟩ rfl rfl hl.1 rfl (lv_room (Nat.le_of_ble_eq_true rfl)) dX1_tell_57 ⟨by decide, by decide⟩) hP hD hS hA [0, 6, 7, 1, 2, 3, 4, 5] [] [0, 3, 4, 5, 6, 7, 1, 2] rfl rfl (by decide) (by decide) (by decide) (fun _ => rfl) (fun r u H locs hw hP hD hS => ?_)
      obtain ⟨rfl, rfl⟩ := hw
      have hP : va_P D vwCl (wc_X1_tell cy q_t q_t_world q_t_world_kind q_t_world_grief q_t_world_bears q_t_world_rota q_t_tape q_t_tape_bytes u57.2.1 u57.2.2.2 u57.2.2.1) H := hP
      have hD : va_D A (wc_X1_tell cy q_t q_t_world q_t_world_kind q_t_world_grief q_t_world_bears q_t_world_rota q_t_tape q_t_tape_bytes u57.2.1 u57.2.2.2 u57.2.2.1) := hD
      refine lv_if_ne (tgt := 74) hx hb dX1_tell_60 (by decide) (fun c60 => ?_) (fun c60 => ?_)
      · replace h := it_n c60 h
        refine lv_iinc (v := (v1 + 1)) (lv' := [(1, .int (v1 + 1)), (0, .ref q_t)]) hx hb dX1_tell_74 hl (k := 1) rfl (by rfl) (by decide) rfl (fun ls hl => ?_)
        refine lv_aload_n hx hb dX1_tell_77 rfl (lv_at hl 1 rfl) ?_
        refine va_get (D := D) (ci := 1) (v := .ref q_t_tape) (C := RX1) (T := TX1) (N := 5) hx hb hts (fun w hw => List.mem_cons_of_mem _ (uw_X1 w hw)) hown hK.1 hP 0 rfl rfl 0 (by decide) (hts _ (List.mem_cons_of_mem _ k_147)) (fun _ h9 => h9) rfl dX1_tell_78 ?_
        obtain ⟨u81, hc81, h⟩ := bd_d h
        have hPc := hP.sub (ws' := wc_X4_advance cy q_t_tape q_t_tape_bytes u57.2.2.1) [6, 7] rfl
        have hDc := hD.sub (ws' := wc_X4_advance cy q_t_tape q_t_tape_bytes u57.2.2.1) [6, 7] (by decide) rfl
        refine cl_v (fun (u : s_T) => wc_X1_tell cy q_t q_t_world q_t_world_kind q_t_world_grief q_t_world_bears q_t_world_rota q_t_tape q_t_tape_bytes u57.2.1 u57.2.2.2 u) (va_runV (As := []) (rest := []) (C := RX4) ⟨hx, hb, hml, hown, hts⟩ (c_X4_advance l D cy H.size q_t_tape q_t_tape_bytes u57.2.2.1 hc81) ⟨callB_of 0 hts (wg_in k_262) rfl rfl rfl (hts _ (List.mem_cons_of_mem _ k_4)) (hts _ (List.mem_cons_of_mem _ k_259)) (by decide +kernel) ⟨by decide, by decide⟩, (hts _ (List.mem_cons_of_mem _ k_260)), (hts _ (List.mem_cons_of_mem _ k_261))⟩ ⟨st_blind, va_recv hK.1 hPc (ci := 4) (q0 := 0) rfl rfl, fun U hU hW => st_pre hK hPc hDc hU hW⟩ rfl rfl hl.1 rfl (lv_room (Nat.le_of_ble_eq_true rfl)) dX1_tell_81 ⟨by decide, by decide⟩) hP hD hS hA [6, 7] [0, 1, 2, 3, 4, 5] [0, 1, 2, 3, 4, 5, 6, 7] rfl rfl (by decide) (by decide) (by decide) (fun _ => rfl) (fun u H locs hw hP hD hS => ?_)
        obtain rfl := hw.symm
        have hP : va_P D vwCl (wc_X1_tell cy q_t q_t_world q_t_world_kind q_t_world_grief q_t_world_bears q_t_world_rota q_t_tape q_t_tape_bytes u57.2.1 u57.2.2.2 u81) H := hP
        have hD : va_D A (wc_X1_tell cy q_t q_t_world q_t_world_kind q_t_world_grief q_t_world_bears q_t_world_rota q_t_tape q_t_tape_bytes u57.2.1 u57.2.2.2 u81) := hD
        refine lv_goto (tgt := 39) hx hb dX1_tell_84 (by decide) ?_
        exact hk39 _ _ _ _ h _ _ _ hP hD hS (lv_sub hl [1, 0] rfl)
      · replace h := it_p c60 h
        refine lv_bipush (v := (-10)) hx hb dX1_tell_63 (by decide) ?_
        refine lv_aload_n hx hb dX1_tell_65 rfl (lv_at hl 0 rfl) ?_
        refine va_get (D := D) (ci := 1) (v := .ref q_t_tape) (C := RX1) (T := TX1) (N := 5) hx hb hts (fun w hw => List.mem_cons_of_mem _ (uw_X1 w hw)) hown hK.1 hP 0 rfl rfl 0 (by decide) (hts _ (List.mem_cons_of_mem _ k_147)) (fun _ h9 => h9) rfl dX1_tell_66 ?_
        refine va_get (D := D) (ci := 4) (v := .int u57.2.2.1.2.2.2.1) (C := RX4) (T := TX4) (N := 6) hx hb hts (fun w hw => List.mem_cons_of_mem _ (uw_X4 w hw)) hown hK.1 hP 6 rfl rfl 4 (by decide) (hts _ (List.mem_cons_of_mem _ k_124)) (fun _ h9 => h9) rfl dX1_tell_69 ?_
        refine lv_isub hx hb dX1_tell_72 ?_
        obtain rfl := Option.some.inj h
        exact W.iret (v := ((-10) - u57.2.2.1.2.2.2.1)) hx hb hr (fun tt ht hW => ⟨⟨((-10) - u57.2.2.1.2.2.2.1), (u57.2.1, u57.2.2.2, u57.2.2.1), rfl, ⟨rfl, rfl⟩, by rw [ht]; exact hP, kk_warm hW hK, hD⟩, hS.F ht⟩) hS.2.2 dX1_tell_73
def M_X1_tell_39   : Nat → s_R → s_W → s_T → Int32 → Option (Int32 × s_R × s_W × s_T)
  | 0, _, _, _, _ => none
  | f + 1, w_t, w_t_world, w_t_tape, v1 => B_X1_tell_39 (M_X1_tell_39 f) f w_t w_t_world w_t_tape v1
theorem t_X1_tell_39 {p : Program} {l : Launch} {e : Env} {s : State} {m : MethodId} {args : Array Value} {below : List Frame} {meth : Method} {c : Code} {D : va_G} {cy : Nat → ClassId} {A : Nat → Prop} {X : (Nat → Nat) × (Nat → Nat)} {q_t : Nat} {q_t_world : Nat} {q_t_world_kind : Nat} {q_t_world_grief : Nat} {q_t_world_bears : Nat} {q_t_world_rota : Nat} {q_t_tape : Nat} {q_t_tape_bytes : Nat} {res : Int32 × s_R × s_W × s_T}  (C0 : cx_C cX1_tell ((some .int)) 3 RX1 (.code yX1_tell cX1_tell 3 ((some .int)) :: wg_L) p s m args meth c D cy A) (E0 : sx_E X A s s.heap)  : ∀ (f : Nat) (w_t : s_R) (w_t_world : s_W) (w_t_tape : s_T) (v1 : Int32), M_X1_tell_39 f w_t w_t_world w_t_tape v1 = some res → ∀ (H : Heap) (locs : List Loc) (ls : Array Slot), va_P D vwCl (wc_X1_tell cy q_t q_t_world q_t_world_kind q_t_world_grief q_t_world_bears q_t_world_rota q_t_tape q_t_tape_bytes w_t w_t_world w_t_tape) H → va_D A (wc_X1_tell cy q_t q_t_world q_t_world_kind q_t_world_grief q_t_world_bears q_t_world_rota q_t_tape q_t_tape_bytes w_t w_t_world w_t_tape) → va_S A s.heap H locs → lv_has ls 3 [(0, .ref q_t), (1, .int v1)] → W p l e rm_X1_tell s m args below meth c H locs 0 0 (qq_X1_tell below args s D cy A q_t q_t_world q_t_world_kind q_t_world_grief q_t_world_bears q_t_world_rota q_t_tape q_t_tape_bytes res) (F0 m 39 ls []) := by
  intro f
  induction f with
  | zero =>
    intro _ _ _ _ h
    exact absurd (show (none : Option (Int32 × s_R × s_W × s_T)) = some res from h) (fun q => by cases q)
  | succ f ih =>
    intro w_t w_t_world w_t_tape v1 h H locs ls hP hD hS hl
    have h : B_X1_tell_39 (M_X1_tell_39 f) f w_t w_t_world w_t_tape v1 = some res := h
    exact b_X1_tell_39 C0 E0 ih h hP hD hS hl
def B_X1_tell_0   (f : Nat) (w_t : s_R) (w_t_world : s_W) (w_t_tape : s_T)  : Option (Int32 × s_R × s_W × s_T) := (M_X5_clear w_t_world).bind (fun u19 => (M_X4_advance f (w_t_tape.1, 0, w_t_tape.2.2.1, w_t_tape.2.2.2.1, w_t_tape.2.2.2.2.1, w_t_tape.2.2.2.2.2)).bind (fun u34 => M_X1_tell_39 f (0, 0, 0) u19 u34 0))
set_option maxHeartbeats 4000000 in
set_option maxRecDepth 100000 in
theorem b_X1_tell_0 {p : Program} {l : Launch} {e : Env} {s : State} {m : MethodId} {args : Array Value} {below : List Frame} {meth : Method} {c : Code} {D : va_G} {cy : Nat → ClassId} {A : Nat → Prop} {X : (Nat → Nat) × (Nat → Nat)} {q_t : Nat} {q_t_world : Nat} {q_t_world_kind : Nat} {q_t_world_grief : Nat} {q_t_world_bears : Nat} {q_t_world_rota : Nat} {q_t_tape : Nat} {q_t_tape_bytes : Nat} {res : Int32 × s_R × s_W × s_T}  {f : Nat} {w_t : s_R} {w_t_world : s_W} {w_t_tape : s_T}  (C0 : cx_C cX1_tell ((some .int)) 3 RX1 (.code yX1_tell cX1_tell 3 ((some .int)) :: wg_L) p s m args meth c D cy A) (E0 : sx_E X A s s.heap)  (h : B_X1_tell_0 f w_t w_t_world w_t_tape = some res) {H : Heap} {locs : List Loc} {ls : Array Slot} (hP : va_P D vwCl (wc_X1_tell cy q_t q_t_world q_t_world_kind q_t_world_grief q_t_world_bears q_t_world_rota q_t_tape q_t_tape_bytes w_t w_t_world w_t_tape) H) (hD : va_D A (wc_X1_tell cy q_t q_t_world q_t_world_kind q_t_world_grief q_t_world_bears q_t_world_rota q_t_tape q_t_tape_bytes w_t w_t_world w_t_tape)) (hS : va_S A s.heap H locs) (hl : lv_has ls 3 [(0, .ref q_t)]) : W p l e rm_X1_tell s m args below meth c H locs 0 0 (qq_X1_tell below args s D cy A q_t q_t_world q_t_world_kind q_t_world_grief q_t_world_bears q_t_world_rota q_t_tape q_t_tape_bytes res) (F0 m 0 ls []) := by
  obtain ⟨hx, hb, hr, hml, hown, hts, hK, hlocks, hA⟩ := id C0
  unfold B_X1_tell_0 at h
  refine lv_aload_n hx hb dX1_tell_0 rfl (lv_at hl 0 rfl) ?_
  refine lv_iconst (v := 0) hx hb dX1_tell_1 (by decide) ?_
  refine va_put (D := D) (ci := 1) (v := .int 0) (ty := .int) (C := RX1) (T := TX1) (N := 5) hx hb hts (fun w hw => List.mem_cons_of_mem _ (uw_X1 w hw)) tyX1 tyX1_ok nmX1 hown hK.1 hP hD hS 0 rfl rfl 4 (by decide) (hts _ (List.mem_cons_of_mem _ k_151)) (fun _ h9 => h9) rfl (by decide +kernel) rfl rfl (Nat.le_of_ble_eq_true rfl) dX1_tell_2 (fun H locs hP hD hS => ?_)
  have hP : va_P D vwCl (wc_X1_tell cy q_t q_t_world q_t_world_kind q_t_world_grief q_t_world_bears q_t_world_rota q_t_tape q_t_tape_bytes (w_t.1, w_t.2.1, 0) w_t_world w_t_tape) H := hP
  have hD : va_D A (wc_X1_tell cy q_t q_t_world q_t_world_kind q_t_world_grief q_t_world_bears q_t_world_rota q_t_tape q_t_tape_bytes (w_t.1, w_t.2.1, 0) w_t_world w_t_tape) := hD
  refine lv_aload_n hx hb dX1_tell_5 rfl (lv_at hl 0 rfl) ?_
  refine lv_iconst (v := 0) hx hb dX1_tell_6 (by decide) ?_
  refine va_put (D := D) (ci := 1) (v := .int 0) (ty := .boolean) (C := RX1) (T := TX1) (N := 5) hx hb hts (fun w hw => List.mem_cons_of_mem _ (uw_X1 w hw)) tyX1 tyX1_ok nmX1 hown hK.1 hP hD hS 0 rfl rfl 2 (by decide) (hts _ (List.mem_cons_of_mem _ k_149)) (fun _ h9 => h9) rfl (by decide +kernel) rfl rfl (Nat.le_of_ble_eq_true rfl) dX1_tell_7 (fun H locs hP hD hS => ?_)
  have hP : va_P D vwCl (wc_X1_tell cy q_t q_t_world q_t_world_kind q_t_world_grief q_t_world_bears q_t_world_rota q_t_tape q_t_tape_bytes (0, w_t.2.1, 0) w_t_world w_t_tape) H := hP
  have hD : va_D A (wc_X1_tell cy q_t q_t_world q_t_world_kind q_t_world_grief q_t_world_bears q_t_world_rota q_t_tape q_t_tape_bytes (0, w_t.2.1, 0) w_t_world w_t_tape) := hD
  refine lv_aload_n hx hb dX1_tell_10 rfl (lv_at hl 0 rfl) ?_
  refine lv_iconst (v := 0) hx hb dX1_tell_11 (by decide) ?_
  refine va_put (D := D) (ci := 1) (v := .int 0) (ty := .boolean) (C := RX1) (T := TX1) (N := 5) hx hb hts (fun w hw => List.mem_cons_of_mem _ (uw_X1 w hw)) tyX1 tyX1_ok nmX1 hown hK.1 hP hD hS 0 rfl rfl 3 (by decide) (hts _ (List.mem_cons_of_mem _ k_150)) (fun _ h9 => h9) rfl (by decide +kernel) rfl rfl (Nat.le_of_ble_eq_true rfl) dX1_tell_12 (fun H locs hP hD hS => ?_)
  have hP : va_P D vwCl (wc_X1_tell cy q_t q_t_world q_t_world_kind q_t_world_grief q_t_world_bears q_t_world_rota q_t_tape q_t_tape_bytes (0, 0, 0) w_t_world w_t_tape) H := hP
  have hD : va_D A (wc_X1_tell cy q_t q_t_world q_t_world_kind q_t_world_grief q_t_world_bears q_t_world_rota q_t_tape q_t_tape_bytes (0, 0, 0) w_t_world w_t_tape) := hD
  refine lv_aload_n hx hb dX1_tell_15 rfl (lv_at hl 0 rfl) ?_
  refine va_get (D := D) (ci := 1) (v := .ref q_t_world) (C := RX1) (T := TX1) (N := 5) hx hb hts (fun w hw => List.mem_cons_of_mem _ (uw_X1 w hw)) hown hK.1 hP 0 rfl rfl 1 (by decide) (hts _ (List.mem_cons_of_mem _ k_148)) (fun _ h9 => h9) rfl dX1_tell_16 ?_
  obtain ⟨u19, hc19, h⟩ := bd_d h
  have hPc := hP.sub (ws' := wc_X5_clear cy q_t_world q_t_world_kind q_t_world_grief q_t_world_bears q_t_world_rota w_t_world) [1, 2, 3, 4, 5] rfl
  have hDc := hD.sub (ws' := wc_X5_clear cy q_t_world q_t_world_kind q_t_world_grief q_t_world_bears q_t_world_rota w_t_world) [1, 2, 3, 4, 5] (by decide) rfl
  refine cl_v (fun (u : s_W) => wc_X1_tell cy q_t q_t_world q_t_world_kind q_t_world_grief q_t_world_bears q_t_world_rota q_t_tape q_t_tape_bytes (0, 0, 0) u w_t_tape) (va_runV (As := []) (rest := []) (C := RX5) ⟨hx, hb, hml, hown, hts⟩ (c_X5_clear l D cy H.size q_t_world q_t_world_kind q_t_world_grief q_t_world_bears q_t_world_rota w_t_world hc19) ⟨callB_of 0 hts (wg_in k_258) rfl rfl rfl (hts _ (List.mem_cons_of_mem _ k_2)) (hts _ (List.mem_cons_of_mem _ k_255)) (by decide +kernel) ⟨by decide, by decide⟩, (hts _ (List.mem_cons_of_mem _ k_256)), (hts _ (List.mem_cons_of_mem _ k_257))⟩ ⟨st_blind, va_recv hK.1 hPc (ci := 5) (q0 := 0) rfl rfl, fun U hU hW => st_pre hK hPc hDc hU hW⟩ rfl rfl hl.1 rfl (lv_room (Nat.le_of_ble_eq_true rfl)) dX1_tell_19 ⟨by decide, by decide⟩) hP hD hS hA [1, 2, 3, 4, 5] [0, 6, 7] [0, 3, 4, 5, 6, 7, 1, 2] rfl rfl (by decide) (by decide) (by decide) (fun _ => rfl) (fun u H locs hw hP hD hS => ?_)
  obtain rfl := hw.symm
  have hP : va_P D vwCl (wc_X1_tell cy q_t q_t_world q_t_world_kind q_t_world_grief q_t_world_bears q_t_world_rota q_t_tape q_t_tape_bytes (0, 0, 0) u19 w_t_tape) H := hP
  have hD : va_D A (wc_X1_tell cy q_t q_t_world q_t_world_kind q_t_world_grief q_t_world_bears q_t_world_rota q_t_tape q_t_tape_bytes (0, 0, 0) u19 w_t_tape) := hD
  refine lv_aload_n hx hb dX1_tell_22 rfl (lv_at hl 0 rfl) ?_
  refine va_get (D := D) (ci := 1) (v := .ref q_t_tape) (C := RX1) (T := TX1) (N := 5) hx hb hts (fun w hw => List.mem_cons_of_mem _ (uw_X1 w hw)) hown hK.1 hP 0 rfl rfl 0 (by decide) (hts _ (List.mem_cons_of_mem _ k_147)) (fun _ h9 => h9) rfl dX1_tell_23 ?_
  refine lv_iconst (v := 0) hx hb dX1_tell_26 (by decide) ?_
  refine va_put (D := D) (ci := 4) (v := .int 0) (ty := .int) (C := RX4) (T := TX4) (N := 6) hx hb hts (fun w hw => List.mem_cons_of_mem _ (uw_X4 w hw)) tyX4 tyX4_ok nmX4 hown hK.1 hP hD hS 6 rfl rfl 2 (by decide) (hts _ (List.mem_cons_of_mem _ k_120)) (fun _ h9 => h9) rfl (by decide +kernel) rfl rfl (Nat.le_of_ble_eq_true rfl) dX1_tell_27 (fun H locs hP hD hS => ?_)
  have hP : va_P D vwCl (wc_X1_tell cy q_t q_t_world q_t_world_kind q_t_world_grief q_t_world_bears q_t_world_rota q_t_tape q_t_tape_bytes (0, 0, 0) u19 (w_t_tape.1, 0, w_t_tape.2.2.1, w_t_tape.2.2.2.1, w_t_tape.2.2.2.2.1, w_t_tape.2.2.2.2.2)) H := hP
  have hD : va_D A (wc_X1_tell cy q_t q_t_world q_t_world_kind q_t_world_grief q_t_world_bears q_t_world_rota q_t_tape q_t_tape_bytes (0, 0, 0) u19 (w_t_tape.1, 0, w_t_tape.2.2.1, w_t_tape.2.2.2.1, w_t_tape.2.2.2.2.1, w_t_tape.2.2.2.2.2)) := hD
  refine lv_aload_n hx hb dX1_tell_30 rfl (lv_at hl 0 rfl) ?_
  refine va_get (D := D) (ci := 1) (v := .ref q_t_tape) (C := RX1) (T := TX1) (N := 5) hx hb hts (fun w hw => List.mem_cons_of_mem _ (uw_X1 w hw)) hown hK.1 hP 0 rfl rfl 0 (by decide) (hts _ (List.mem_cons_of_mem _ k_147)) (fun _ h9 => h9) rfl dX1_tell_31 ?_
  obtain ⟨u34, hc34, h⟩ := bd_d h
  have hPc := hP.sub (ws' := wc_X4_advance cy q_t_tape q_t_tape_bytes (w_t_tape.1, 0, w_t_tape.2.2.1, w_t_tape.2.2.2.1, w_t_tape.2.2.2.2.1, w_t_tape.2.2.2.2.2)) [6, 7] rfl
  have hDc := hD.sub (ws' := wc_X4_advance cy q_t_tape q_t_tape_bytes (w_t_tape.1, 0, w_t_tape.2.2.1, w_t_tape.2.2.2.1, w_t_tape.2.2.2.2.1, w_t_tape.2.2.2.2.2)) [6, 7] (by decide) rfl
  refine cl_v (fun (u : s_T) => wc_X1_tell cy q_t q_t_world q_t_world_kind q_t_world_grief q_t_world_bears q_t_world_rota q_t_tape q_t_tape_bytes (0, 0, 0) u19 u) (va_runV (As := []) (rest := []) (C := RX4) ⟨hx, hb, hml, hown, hts⟩ (c_X4_advance l D cy H.size q_t_tape q_t_tape_bytes (w_t_tape.1, 0, w_t_tape.2.2.1, w_t_tape.2.2.2.1, w_t_tape.2.2.2.2.1, w_t_tape.2.2.2.2.2) hc34) ⟨callB_of 0 hts (wg_in k_262) rfl rfl rfl (hts _ (List.mem_cons_of_mem _ k_4)) (hts _ (List.mem_cons_of_mem _ k_259)) (by decide +kernel) ⟨by decide, by decide⟩, (hts _ (List.mem_cons_of_mem _ k_260)), (hts _ (List.mem_cons_of_mem _ k_261))⟩ ⟨st_blind, va_recv hK.1 hPc (ci := 4) (q0 := 0) rfl rfl, fun U hU hW => st_pre hK hPc hDc hU hW⟩ rfl rfl hl.1 rfl (lv_room (Nat.le_of_ble_eq_true rfl)) dX1_tell_34 ⟨by decide, by decide⟩) hP hD hS hA [6, 7] [0, 1, 2, 3, 4, 5] [0, 1, 2, 3, 4, 5, 6, 7] rfl rfl (by decide) (by decide) (by decide) (fun _ => rfl) (fun u H locs hw hP hD hS => ?_)
  obtain rfl := hw.symm
  have hP : va_P D vwCl (wc_X1_tell cy q_t q_t_world q_t_world_kind q_t_world_grief q_t_world_bears q_t_world_rota q_t_tape q_t_tape_bytes (0, 0, 0) u19 u34) H := hP
  have hD : va_D A (wc_X1_tell cy q_t q_t_world q_t_world_kind q_t_world_grief q_t_world_bears q_t_world_rota q_t_tape q_t_tape_bytes (0, 0, 0) u19 u34) := hD
  refine lv_iconst (v := 0) hx hb dX1_tell_37 (by decide) ?_
  refine lv_istore_n (lv' := [(1, .int 0), (0, .ref q_t)]) hx hb dX1_tell_38 rfl hl (by decide) rfl (fun ls hl => ?_)
  exact t_X1_tell_39 C0 E0 _ _ _ _ _ h _ _ _ hP hD hS (lv_sub hl [1, 0] rfl)
def M_X1_tell   (f : Nat) (w_t : s_R) (w_t_world : s_W) (w_t_tape : s_T)  : Option (Int32 × s_R × s_W × s_T) := B_X1_tell_0 f w_t w_t_world w_t_tape
set_option maxHeartbeats 4000000 in
set_option maxRecDepth 100000 in
theorem c_X1_tell (l : Launch) (D : va_G) (cy : Nat → ClassId) (sz : Nat) (X : (Nat → Nat) × (Nat → Nat)) (q_t : Nat) (q_t_world : Nat) (q_t_world_kind : Nat) (q_t_world_grief : Nat) (q_t_world_bears : Nat) (q_t_world_rota : Nat) (q_t_tape : Nat) (q_t_tape_bytes : Nat) (w_t : s_R) (w_t_world : s_W) (w_t_tape : s_T)  {f : Nat} {res : Int32 × s_R × s_W × s_T} (h : M_X1_tell f w_t w_t_world w_t_tape = some res) : cx_i l yX1_tell (.code yX1_tell cX1_tell 3 ((some .int)) :: wg_L) rm_X1_tell D cy sz X (wc_X1_tell cy q_t q_t_world q_t_world_kind q_t_world_grief q_t_world_bears q_t_world_rota q_t_tape q_t_tape_bytes w_t w_t_world w_t_tape) [.ref q_t] (fun r (u : s_R × s_W × s_T) => r = res.1 ∧ u = res.2) (fun (u : s_R × s_W × s_T) => wc_X1_tell cy q_t q_t_world q_t_world_kind q_t_world_grief q_t_world_bears q_t_world_rota q_t_tape q_t_tape_bytes u.1 u.2.1 u.2.2) := by
  refine Met.ofW (cc := cX1_tell) (maxL := 3) (ret := (some .int)) (by decide) rfl ?_
  intro p e s m args below meth c s₁ B hml hv
  obtain ⟨rfl, hsz, hP, hK, hD0, hE⟩ := hv
  subst hsz
  have hD := hD0.self (sz := s.heap.size)
  have hl := lv_entry ([.ref q_t]) (n := 3) (Nat.le_of_ble_eq_true rfl)
  rw [lg_entry_eq]
  have C0 : cx_C cX1_tell ((some .int)) 3 RX1 (.code yX1_tell cX1_tell 3 ((some .int)) :: wg_L) p s m [.ref q_t].toArray meth c D cy (va_A (wc_X1_tell cy q_t q_t_world q_t_world_kind q_t_world_grief q_t_world_bears q_t_world_rota q_t_tape q_t_tape_bytes w_t w_t_world w_t_tape) s.heap.size) := ⟨B.exec, B.bytes, B.returns, hml, findClass_of_methodNamed B.named, atoms_spec (ws := .code yX1_tell cX1_tell 3 ((some .int)) :: wg_L) B.pre, hK, B.notSynchronized, fun q h => Or.inr h⟩
  exact b_X1_tell_0 C0 hE h hP hD va_S.rf (lv_sub hl [0] rfl)
/-! ### BarrowGrief.text()I -/
abbrev wc_X6_text (cy : Nat → ClassId) (q_t q_t_reader q_t_trial q_t_trial_kind q_t_trial_grief q_t_trial_bears q_t_trial_rota q_t_tape q_t_tape_bytes q_t_now q_t_now_kind q_t_now_grief q_t_now_bears q_t_now_rota q_t_seen q_t_seen_behind q_t_seen_who q_t_seen_grief q_t_images q_t_images_1 q_t_images_0 q_t_guesses q_t_sheets q_t_row q_t_bestRow q_t_images_1_world q_t_images_1_seen q_t_images_0_world q_t_images_0_seen : Nat) (t_torn : Int32) (w_t_reader : s_R) (w_t_trial : s_W) (w_t_tape : s_T) (w_t_now : s_W) (w_t_seen : s_V) (t_images_1_kept : Int32) (t_images_0_kept : Int32) : va_W := [(q_t, .inr (6, [.ref q_t_now, .ref q_t_trial, .ref q_t_guesses, .ref q_t_seen, .ref q_t_images, .ref q_t_sheets, .ref q_t_tape, .ref q_t_reader, .ref q_t_row, .ref q_t_bestRow, .int t_torn])), (q_t_reader, .inr (1, [.ref q_t_tape, .ref q_t_trial, .int w_t_reader.1, .int w_t_reader.2.1, .int w_t_reader.2.2])), (q_t_trial, .inr (5, [.ref q_t_trial_kind, .ref q_t_trial_grief, .ref q_t_trial_bears, .ref q_t_trial_rota, .int w_t_trial.1, .int w_t_trial.2.1, .int w_t_trial.2.2.1, .int w_t_trial.2.2.2.1, .int w_t_trial.2.2.2.2.1, .int w_t_trial.2.2.2.2.2.1, .int w_t_trial.2.2.2.2.2.2.1])), (q_t_trial_kind, .inl (cy 1, 5, .inl w_t_trial.2.2.2.2.2.2.2.1)), (q_t_trial_grief, .inl (cy 1, 5, .inl w_t_trial.2.2.2.2.2.2.2.2.1)), (q_t_trial_bears, .inl (cy 1, 5, .inl w_t_trial.2.2.2.2.2.2.2.2.2.1)), (q_t_trial_rota, .inl (cy 1, 8, .inl w_t_trial.2.2.2.2.2.2.2.2.2.2)), (q_t_tape, .inr (4, [.ref q_t_tape_bytes, .int w_t_tape.1, .int w_t_tape.2.1, .int w_t_tape.2.2.1, .int w_t_tape.2.2.2.1, .int w_t_tape.2.2.2.2.1])), (q_t_tape_bytes, .inl (cy 0, 160, .inl w_t_tape.2.2.2.2.2)), (q_t_now, .inr (5, [.ref q_t_now_kind, .ref q_t_now_grief, .ref q_t_now_bears, .ref q_t_now_rota, .int w_t_now.1, .int w_t_now.2.1, .int w_t_now.2.2.1, .int w_t_now.2.2.2.1, .int w_t_now.2.2.2.2.1, .int w_t_now.2.2.2.2.2.1, .int w_t_now.2.2.2.2.2.2.1])), (q_t_now_kind, .inl (cy 1, 5, .inl w_t_now.2.2.2.2.2.2.2.1)), (q_t_now_grief, .inl (cy 1, 5, .inl w_t_now.2.2.2.2.2.2.2.2.1)), (q_t_now_bears, .inl (cy 1, 5, .inl w_t_now.2.2.2.2.2.2.2.2.2.1)), (q_t_now_rota, .inl (cy 1, 8, .inl w_t_now.2.2.2.2.2.2.2.2.2.2)), (q_t_seen, .inr (3, [.ref q_t_seen_behind, .ref q_t_seen_who, .ref q_t_seen_grief, .int w_t_seen.1])), (q_t_seen_behind, .inl (cy 1, 6, .inl w_t_seen.2.1)), (q_t_seen_who, .inl (cy 1, 6, .inl w_t_seen.2.2.1)), (q_t_seen_grief, .inl (cy 1, 6, .inl w_t_seen.2.2.2)), (q_t_images, .inl (cy 3, 2, .inr (.inr (.inr (.inr (fun j => if j = 0 then some q_t_images_0 else if j = 1 then some q_t_images_1 else none)))))), (q_t_images_1, .inr (0, [.ref q_t_images_1_world, .ref q_t_images_1_seen, .int t_images_1_kept])), (q_t_images_0, .inr (0, [.ref q_t_images_0_world, .ref q_t_images_0_seen, .int t_images_0_kept]))]
abbrev rm_X6_text : Room := { frames := 8, cells := 0, slots := 0, locals := 185 }
abbrev qq_X6_text (below : List Frame) (args : Array Value) (s : State) (D : va_G) (cy : Nat → ClassId) (A : Nat → Prop) (q_t : Nat) (q_t_reader : Nat) (q_t_trial : Nat) (q_t_trial_kind : Nat) (q_t_trial_grief : Nat) (q_t_trial_bears : Nat) (q_t_trial_rota : Nat) (q_t_tape : Nat) (q_t_tape_bytes : Nat) (q_t_now : Nat) (q_t_now_kind : Nat) (q_t_now_grief : Nat) (q_t_now_bears : Nat) (q_t_now_rota : Nat) (q_t_seen : Nat) (q_t_seen_behind : Nat) (q_t_seen_who : Nat) (q_t_seen_grief : Nat) (q_t_images : Nat) (q_t_images_1 : Nat) (q_t_images_0 : Nat) (q_t_guesses : Nat) (q_t_sheets : Nat) (q_t_row : Nat) (q_t_bestRow : Nat) (q_t_images_1_world : Nat) (q_t_images_1_seen : Nat) (q_t_images_0_world : Nat) (q_t_images_0_seen : Nat) (t_torn : Int32) (res : Int32 × s_R × s_W × s_T × s_W × s_V × Int32 × Int32) : State → Prop := MQ below (va_Qi (fun r (u : s_R × s_W × s_T × s_W × s_V × Int32 × Int32) => r = res.1 ∧ u = res.2) (fun u t => st_B D cy A ((fun (u : s_R × s_W × s_T × s_W × s_V × Int32 × Int32) => wc_X6_text cy q_t q_t_reader q_t_trial q_t_trial_kind q_t_trial_grief q_t_trial_bears q_t_trial_rota q_t_tape q_t_tape_bytes q_t_now q_t_now_kind q_t_now_grief q_t_now_bears q_t_now_rota q_t_seen q_t_seen_behind q_t_seen_who q_t_seen_grief q_t_images q_t_images_1 q_t_images_0 q_t_guesses q_t_sheets q_t_row q_t_bestRow q_t_images_1_world q_t_images_1_seen q_t_images_0_world q_t_images_0_seen t_torn u.1 u.2.1 u.2.2.1 u.2.2.2.1 u.2.2.2.2.1 u.2.2.2.2.2.1 u.2.2.2.2.2.2) u) t) A) args s 0 0 A
def B_X6_text_47 (k47 : s_R → s_W → s_T → s_W → s_V → Int32 → Int32 → Int32 → Int32 → Option (Int32 × s_R × s_W × s_T × s_W × s_V × Int32 × Int32))  (f : Nat) (w_t_reader : s_R) (w_t_trial : s_W) (w_t_tape : s_T) (w_t_now : s_W) (w_t_seen : s_V) (t_images_1_kept : Int32) (t_images_0_kept : Int32) (v1 : Int32) (v2 : Int32) : Option (Int32 × s_R × s_W × s_T × s_W × s_V × Int32 × Int32) := if 2 ≤ v2 then (some (v1, w_t_reader, w_t_trial, w_t_tape, w_t_now, w_t_seen, t_images_1_kept, t_images_0_kept)) else (if v2 = 0 then (k47 w_t_reader w_t_trial w_t_tape w_t_now w_t_seen t_images_1_kept 0 v1 (v2 + 1)) else (if v2 = 1 then (k47 w_t_reader w_t_trial w_t_tape w_t_now w_t_seen 0 t_images_0_kept v1 (v2 + 1)) else none))
set_option maxHeartbeats 4000000 in
set_option maxRecDepth 100000 in
theorem b_X6_text_47 {p : Program} {l : Launch} {e : Env} {s : State} {m : MethodId} {args : Array Value} {below : List Frame} {meth : Method} {c : Code} {D : va_G} {cy : Nat → ClassId} {A : Nat → Prop} {X : (Nat → Nat) × (Nat → Nat)} {q_t : Nat} {q_t_reader : Nat} {q_t_trial : Nat} {q_t_trial_kind : Nat} {q_t_trial_grief : Nat} {q_t_trial_bears : Nat} {q_t_trial_rota : Nat} {q_t_tape : Nat} {q_t_tape_bytes : Nat} {q_t_now : Nat} {q_t_now_kind : Nat} {q_t_now_grief : Nat} {q_t_now_bears : Nat} {q_t_now_rota : Nat} {q_t_seen : Nat} {q_t_seen_behind : Nat} {q_t_seen_who : Nat} {q_t_seen_grief : Nat} {q_t_images : Nat} {q_t_images_1 : Nat} {q_t_images_0 : Nat} {q_t_guesses : Nat} {q_t_sheets : Nat} {q_t_row : Nat} {q_t_bestRow : Nat} {q_t_images_1_world : Nat} {q_t_images_1_seen : Nat} {q_t_images_0_world : Nat} {q_t_images_0_seen : Nat} {t_torn : Int32} {res : Int32 × s_R × s_W × s_T × s_W × s_V × Int32 × Int32} {k47 : s_R → s_W → s_T → s_W → s_V → Int32 → Int32 → Int32 → Int32 → Option (Int32 × s_R × s_W × s_T × s_W × s_V × Int32 × Int32)} {f : Nat} {w_t_reader : s_R} {w_t_trial : s_W} {w_t_tape : s_T} {w_t_now : s_W} {w_t_seen : s_V} {t_images_1_kept : Int32} {t_images_0_kept : Int32} {v1 : Int32} {v2 : Int32} (C0 : cx_C cX6_text ((some .int)) 3 RX6 (.code yX6_text cX6_text 3 ((some .int)) :: wg_L) p s m args meth c D cy A) (E0 : sx_E X A s s.heap) (hk47 : ∀ (w_t_reader : s_R) (w_t_trial : s_W) (w_t_tape : s_T) (w_t_now : s_W) (w_t_seen : s_V) (t_images_1_kept : Int32) (t_images_0_kept : Int32) (v1 : Int32) (v2 : Int32), k47 w_t_reader w_t_trial w_t_tape w_t_now w_t_seen t_images_1_kept t_images_0_kept v1 v2 = some res → ∀ (H : Heap) (locs : List Loc) (ls : Array Slot), va_P D vwCl (wc_X6_text cy q_t q_t_reader q_t_trial q_t_trial_kind q_t_trial_grief q_t_trial_bears q_t_trial_rota q_t_tape q_t_tape_bytes q_t_now q_t_now_kind q_t_now_grief q_t_now_bears q_t_now_rota q_t_seen q_t_seen_behind q_t_seen_who q_t_seen_grief q_t_images q_t_images_1 q_t_images_0 q_t_guesses q_t_sheets q_t_row q_t_bestRow q_t_images_1_world q_t_images_1_seen q_t_images_0_world q_t_images_0_seen t_torn w_t_reader w_t_trial w_t_tape w_t_now w_t_seen t_images_1_kept t_images_0_kept) H → va_D A (wc_X6_text cy q_t q_t_reader q_t_trial q_t_trial_kind q_t_trial_grief q_t_trial_bears q_t_trial_rota q_t_tape q_t_tape_bytes q_t_now q_t_now_kind q_t_now_grief q_t_now_bears q_t_now_rota q_t_seen q_t_seen_behind q_t_seen_who q_t_seen_grief q_t_images q_t_images_1 q_t_images_0 q_t_guesses q_t_sheets q_t_row q_t_bestRow q_t_images_1_world q_t_images_1_seen q_t_images_0_world q_t_images_0_seen t_torn w_t_reader w_t_trial w_t_tape w_t_now w_t_seen t_images_1_kept t_images_0_kept) → va_S A s.heap H locs → lv_has ls 3 [(0, .ref q_t), (1, .int v1), (2, .int v2)] → W p l e rm_X6_text s m args below meth c H locs 0 0 (qq_X6_text below args s D cy A q_t q_t_reader q_t_trial q_t_trial_kind q_t_trial_grief q_t_trial_bears q_t_trial_rota q_t_tape q_t_tape_bytes q_t_now q_t_now_kind q_t_now_grief q_t_now_bears q_t_now_rota q_t_seen q_t_seen_behind q_t_seen_who q_t_seen_grief q_t_images q_t_images_1 q_t_images_0 q_t_guesses q_t_sheets q_t_row q_t_bestRow q_t_images_1_world q_t_images_1_seen q_t_images_0_world q_t_images_0_seen t_torn res) (F0 m 47 ls [])) (h : B_X6_text_47 k47 f w_t_reader w_t_trial w_t_tape w_t_now w_t_seen t_images_1_kept t_images_0_kept v1 v2 = some res) {H : Heap} {locs : List Loc} {ls : Array Slot} (hP : va_P D vwCl (wc_X6_text cy q_t q_t_reader q_t_trial q_t_trial_kind q_t_trial_grief q_t_trial_bears q_t_trial_rota q_t_tape q_t_tape_bytes q_t_now q_t_now_kind q_t_now_grief q_t_now_bears q_t_now_rota q_t_seen q_t_seen_behind q_t_seen_who q_t_seen_grief q_t_images q_t_images_1 q_t_images_0 q_t_guesses q_t_sheets q_t_row q_t_bestRow q_t_images_1_world q_t_images_1_seen q_t_images_0_world q_t_images_0_seen t_torn w_t_reader w_t_trial w_t_tape w_t_now w_t_seen t_images_1_kept t_images_0_kept) H) (hD : va_D A (wc_X6_text cy q_t q_t_reader q_t_trial q_t_trial_kind q_t_trial_grief q_t_trial_bears q_t_trial_rota q_t_tape q_t_tape_bytes q_t_now q_t_now_kind q_t_now_grief q_t_now_bears q_t_now_rota q_t_seen q_t_seen_behind q_t_seen_who q_t_seen_grief q_t_images q_t_images_1 q_t_images_0 q_t_guesses q_t_sheets q_t_row q_t_bestRow q_t_images_1_world q_t_images_1_seen q_t_images_0_world q_t_images_0_seen t_torn w_t_reader w_t_trial w_t_tape w_t_now w_t_seen t_images_1_kept t_images_0_kept)) (hS : va_S A s.heap H locs) (hl : lv_has ls 3 [(0, .ref q_t), (1, .int v1), (2, .int v2)]) : W p l e rm_X6_text s m args below meth c H locs 0 0 (qq_X6_text below args s D cy A q_t q_t_reader q_t_trial q_t_trial_kind q_t_trial_grief q_t_trial_bears q_t_trial_rota q_t_tape q_t_tape_bytes q_t_now q_t_now_kind q_t_now_grief q_t_now_bears q_t_now_rota q_t_seen q_t_seen_behind q_t_seen_who q_t_seen_grief q_t_images q_t_images_1 q_t_images_0 q_t_guesses q_t_sheets q_t_row q_t_bestRow q_t_images_1_world q_t_images_1_seen q_t_images_0_world q_t_images_0_seen t_torn res) (F0 m 47 ls []) := by
  obtain ⟨hx, hb, hr, hml, hown, hts, hK, hlocks, hA⟩ := id C0
  unfold B_X6_text_47 at h
  refine lv_iload_n hx hb dX6_text_47 rfl (lv_at hl 2 rfl) ?_
  refine lv_iconst (v := 2) hx hb dX6_text_48 (by decide) ?_
  refine lv_icmp_ge (tgt := 68) hx hb dX6_text_49 (by decide) (fun c49 => ?_) (fun c49 => ?_)
  · replace h := it_p c49 h
    refine lv_iload_n hx hb dX6_text_68 rfl (lv_at hl 1 rfl) ?_
    obtain rfl := Option.some.inj h
    exact W.iret (v := v1) hx hb hr (fun tt ht hW => ⟨⟨v1, (w_t_reader, w_t_trial, w_t_tape, w_t_now, w_t_seen, t_images_1_kept, t_images_0_kept), rfl, ⟨rfl, rfl⟩, by rw [ht]; exact hP, kk_warm hW hK, hD⟩, hS.F ht⟩) hS.2.2 dX6_text_69
  · replace h := it_n c49 h
    refine lv_aload_n hx hb dX6_text_52 rfl (lv_at hl 0 rfl) ?_
    refine va_get (D := D) (ci := 6) (v := .ref q_t_images) (C := RX6) (T := TX6) (N := 11) hx hb hts (fun w hw => List.mem_cons_of_mem _ (uw_X6 w hw)) hown hK.1 hP 0 rfl rfl 4 (by decide) (hts _ (List.mem_cons_of_mem _ k_206)) (fun _ h9 => h9) rfl dX6_text_53 ?_
    refine lv_iload_n hx hb dX6_text_56 rfl (lv_at hl 2 rfl) ?_
    by_cases c57_0 : v2 = 0
    · replace h := it_p c57_0 h
      refine va_aldq (C := "BarrowGrief$Image") hx hb hK.1 hP 18 3 rfl rfl (by rw [c57_0]; unfold vp_in; decide) dX6_text_57 ?_
      refine W.eq (g2 := F0 m 58 ls (.ref q_t_images_0 :: [])) (by rw [c57_0]; rfl) ?_
      refine lv_iconst (v := 0) hx hb dX6_text_58 (by decide) ?_
      refine va_put (D := D) (ci := 0) (v := .int 0) (ty := .boolean) (C := RX0) (T := TX0) (N := 3) hx hb hts (fun w hw => List.mem_cons_of_mem _ (uw_X0 w hw)) tyX0 tyX0_ok nmX0 hown hK.1 hP hD hS 20 rfl rfl 2 (by decide) (hts _ (List.mem_cons_of_mem _ k_177)) (fun _ h9 => h9) rfl (by decide +kernel) rfl rfl (Nat.le_of_ble_eq_true rfl) dX6_text_59 (fun H locs hP hD hS => ?_)
      have hP : va_P D vwCl (wc_X6_text cy q_t q_t_reader q_t_trial q_t_trial_kind q_t_trial_grief q_t_trial_bears q_t_trial_rota q_t_tape q_t_tape_bytes q_t_now q_t_now_kind q_t_now_grief q_t_now_bears q_t_now_rota q_t_seen q_t_seen_behind q_t_seen_who q_t_seen_grief q_t_images q_t_images_1 q_t_images_0 q_t_guesses q_t_sheets q_t_row q_t_bestRow q_t_images_1_world q_t_images_1_seen q_t_images_0_world q_t_images_0_seen t_torn w_t_reader w_t_trial w_t_tape w_t_now w_t_seen t_images_1_kept 0) H := hP
      have hD : va_D A (wc_X6_text cy q_t q_t_reader q_t_trial q_t_trial_kind q_t_trial_grief q_t_trial_bears q_t_trial_rota q_t_tape q_t_tape_bytes q_t_now q_t_now_kind q_t_now_grief q_t_now_bears q_t_now_rota q_t_seen q_t_seen_behind q_t_seen_who q_t_seen_grief q_t_images q_t_images_1 q_t_images_0 q_t_guesses q_t_sheets q_t_row q_t_bestRow q_t_images_1_world q_t_images_1_seen q_t_images_0_world q_t_images_0_seen t_torn w_t_reader w_t_trial w_t_tape w_t_now w_t_seen t_images_1_kept 0) := hD
      refine lv_iinc (v := (v2 + 1)) (lv' := [(2, .int (v2 + 1)), (0, .ref q_t), (1, .int v1)]) hx hb dX6_text_62 hl (k := 2) rfl (by rfl) (by decide) rfl (fun ls hl => ?_)
      refine lv_goto (tgt := 47) hx hb dX6_text_65 (by decide) ?_
      exact hk47 _ _ _ _ _ _ _ _ _ h _ _ _ hP hD hS (lv_sub hl [1, 2, 0] rfl)
    replace h := it_n c57_0 h
    by_cases c57_1 : v2 = 1
    · replace h := it_p c57_1 h
      refine va_aldq (C := "BarrowGrief$Image") hx hb hK.1 hP 18 3 rfl rfl (by rw [c57_1]; unfold vp_in; decide) dX6_text_57 ?_
      refine W.eq (g2 := F0 m 58 ls (.ref q_t_images_1 :: [])) (by rw [c57_1]; rfl) ?_
      refine lv_iconst (v := 0) hx hb dX6_text_58 (by decide) ?_
      refine va_put (D := D) (ci := 0) (v := .int 0) (ty := .boolean) (C := RX0) (T := TX0) (N := 3) hx hb hts (fun w hw => List.mem_cons_of_mem _ (uw_X0 w hw)) tyX0 tyX0_ok nmX0 hown hK.1 hP hD hS 19 rfl rfl 2 (by decide) (hts _ (List.mem_cons_of_mem _ k_177)) (fun _ h9 => h9) rfl (by decide +kernel) rfl rfl (Nat.le_of_ble_eq_true rfl) dX6_text_59 (fun H locs hP hD hS => ?_)
      have hP : va_P D vwCl (wc_X6_text cy q_t q_t_reader q_t_trial q_t_trial_kind q_t_trial_grief q_t_trial_bears q_t_trial_rota q_t_tape q_t_tape_bytes q_t_now q_t_now_kind q_t_now_grief q_t_now_bears q_t_now_rota q_t_seen q_t_seen_behind q_t_seen_who q_t_seen_grief q_t_images q_t_images_1 q_t_images_0 q_t_guesses q_t_sheets q_t_row q_t_bestRow q_t_images_1_world q_t_images_1_seen q_t_images_0_world q_t_images_0_seen t_torn w_t_reader w_t_trial w_t_tape w_t_now w_t_seen 0 t_images_0_kept) H := hP
      have hD : va_D A (wc_X6_text cy q_t q_t_reader q_t_trial q_t_trial_kind q_t_trial_grief q_t_trial_bears q_t_trial_rota q_t_tape q_t_tape_bytes q_t_now q_t_now_kind q_t_now_grief q_t_now_bears q_t_now_rota q_t_seen q_t_seen_behind q_t_seen_who q_t_seen_grief q_t_images q_t_images_1 q_t_images_0 q_t_guesses q_t_sheets q_t_row q_t_bestRow q_t_images_1_world q_t_images_1_seen q_t_images_0_world q_t_images_0_seen t_torn w_t_reader w_t_trial w_t_tape w_t_now w_t_seen 0 t_images_0_kept) := hD
      refine lv_iinc (v := (v2 + 1)) (lv' := [(2, .int (v2 + 1)), (0, .ref q_t), (1, .int v1)]) hx hb dX6_text_62 hl (k := 2) rfl (by rfl) (by decide) rfl (fun ls hl => ?_)
      refine lv_goto (tgt := 47) hx hb dX6_text_65 (by decide) ?_
      exact hk47 _ _ _ _ _ _ _ _ _ h _ _ _ hP hD hS (lv_sub hl [1, 2, 0] rfl)
    replace h := it_n c57_1 h
    cases h
def M_X6_text_47   : Nat → s_R → s_W → s_T → s_W → s_V → Int32 → Int32 → Int32 → Int32 → Option (Int32 × s_R × s_W × s_T × s_W × s_V × Int32 × Int32)
  | 0, _, _, _, _, _, _, _, _, _ => none
  | f + 1, w_t_reader, w_t_trial, w_t_tape, w_t_now, w_t_seen, t_images_1_kept, t_images_0_kept, v1, v2 => B_X6_text_47 (M_X6_text_47 f) f w_t_reader w_t_trial w_t_tape w_t_now w_t_seen t_images_1_kept t_images_0_kept v1 v2
theorem t_X6_text_47 {p : Program} {l : Launch} {e : Env} {s : State} {m : MethodId} {args : Array Value} {below : List Frame} {meth : Method} {c : Code} {D : va_G} {cy : Nat → ClassId} {A : Nat → Prop} {X : (Nat → Nat) × (Nat → Nat)} {q_t : Nat} {q_t_reader : Nat} {q_t_trial : Nat} {q_t_trial_kind : Nat} {q_t_trial_grief : Nat} {q_t_trial_bears : Nat} {q_t_trial_rota : Nat} {q_t_tape : Nat} {q_t_tape_bytes : Nat} {q_t_now : Nat} {q_t_now_kind : Nat} {q_t_now_grief : Nat} {q_t_now_bears : Nat} {q_t_now_rota : Nat} {q_t_seen : Nat} {q_t_seen_behind : Nat} {q_t_seen_who : Nat} {q_t_seen_grief : Nat} {q_t_images : Nat} {q_t_images_1 : Nat} {q_t_images_0 : Nat} {q_t_guesses : Nat} {q_t_sheets : Nat} {q_t_row : Nat} {q_t_bestRow : Nat} {q_t_images_1_world : Nat} {q_t_images_1_seen : Nat} {q_t_images_0_world : Nat} {q_t_images_0_seen : Nat} {t_torn : Int32} {res : Int32 × s_R × s_W × s_T × s_W × s_V × Int32 × Int32}  (C0 : cx_C cX6_text ((some .int)) 3 RX6 (.code yX6_text cX6_text 3 ((some .int)) :: wg_L) p s m args meth c D cy A) (E0 : sx_E X A s s.heap)  : ∀ (f : Nat) (w_t_reader : s_R) (w_t_trial : s_W) (w_t_tape : s_T) (w_t_now : s_W) (w_t_seen : s_V) (t_images_1_kept : Int32) (t_images_0_kept : Int32) (v1 : Int32) (v2 : Int32), M_X6_text_47 f w_t_reader w_t_trial w_t_tape w_t_now w_t_seen t_images_1_kept t_images_0_kept v1 v2 = some res → ∀ (H : Heap) (locs : List Loc) (ls : Array Slot), va_P D vwCl (wc_X6_text cy q_t q_t_reader q_t_trial q_t_trial_kind q_t_trial_grief q_t_trial_bears q_t_trial_rota q_t_tape q_t_tape_bytes q_t_now q_t_now_kind q_t_now_grief q_t_now_bears q_t_now_rota q_t_seen q_t_seen_behind q_t_seen_who q_t_seen_grief q_t_images q_t_images_1 q_t_images_0 q_t_guesses q_t_sheets q_t_row q_t_bestRow q_t_images_1_world q_t_images_1_seen q_t_images_0_world q_t_images_0_seen t_torn w_t_reader w_t_trial w_t_tape w_t_now w_t_seen t_images_1_kept t_images_0_kept) H → va_D A (wc_X6_text cy q_t q_t_reader q_t_trial q_t_trial_kind q_t_trial_grief q_t_trial_bears q_t_trial_rota q_t_tape q_t_tape_bytes q_t_now q_t_now_kind q_t_now_grief q_t_now_bears q_t_now_rota q_t_seen q_t_seen_behind q_t_seen_who q_t_seen_grief q_t_images q_t_images_1 q_t_images_0 q_t_guesses q_t_sheets q_t_row q_t_bestRow q_t_images_1_world q_t_images_1_seen q_t_images_0_world q_t_images_0_seen t_torn w_t_reader w_t_trial w_t_tape w_t_now w_t_seen t_images_1_kept t_images_0_kept) → va_S A s.heap H locs → lv_has ls 3 [(0, .ref q_t), (1, .int v1), (2, .int v2)] → W p l e rm_X6_text s m args below meth c H locs 0 0 (qq_X6_text below args s D cy A q_t q_t_reader q_t_trial q_t_trial_kind q_t_trial_grief q_t_trial_bears q_t_trial_rota q_t_tape q_t_tape_bytes q_t_now q_t_now_kind q_t_now_grief q_t_now_bears q_t_now_rota q_t_seen q_t_seen_behind q_t_seen_who q_t_seen_grief q_t_images q_t_images_1 q_t_images_0 q_t_guesses q_t_sheets q_t_row q_t_bestRow q_t_images_1_world q_t_images_1_seen q_t_images_0_world q_t_images_0_seen t_torn res) (F0 m 47 ls []) := by
  intro f
  induction f with
  | zero =>
    intro _ _ _ _ _ _ _ _ _ h
    exact absurd (show (none : Option (Int32 × s_R × s_W × s_T × s_W × s_V × Int32 × Int32)) = some res from h) (fun q => by cases q)
  | succ f ih =>
    intro w_t_reader w_t_trial w_t_tape w_t_now w_t_seen t_images_1_kept t_images_0_kept v1 v2 h H locs ls hP hD hS hl
    have h : B_X6_text_47 (M_X6_text_47 f) f w_t_reader w_t_trial w_t_tape w_t_now w_t_seen t_images_1_kept t_images_0_kept v1 v2 = some res := h
    exact b_X6_text_47 C0 E0 ih h hP hD hS hl
def B_X6_text_0   (f : Nat) (w_t_reader : s_R) (w_t_trial : s_W) (w_t_tape : s_T) (w_t_now : s_W) (w_t_seen : s_V) (t_images_1_kept : Int32) (t_images_0_kept : Int32)  : Option (Int32 × s_R × s_W × s_T × s_W × s_V × Int32 × Int32) := (M_X1_tell f w_t_reader w_t_trial w_t_tape).bind (fun u4 => if u4.2.1.2.2 = 0 then ((M_X5_become u4.2.2.1 w_t_now).bind (fun u34 => M_X6_text_47 f u4.2.1 u4.2.2.1 (0, u4.2.2.2.2.1, u4.2.2.2.2.2.1, u4.2.2.2.2.2.2.1, u4.2.2.2.2.2.2.2.1, u4.2.2.2.2.2.2.2.2) u34 (0, w_t_seen.2.1, w_t_seen.2.2.1, w_t_seen.2.2.2) t_images_1_kept t_images_0_kept u4.1 0)) else (some (u4.1, u4.2.1, u4.2.2.1, (0, u4.2.2.2.2.1, u4.2.2.2.2.2.1, u4.2.2.2.2.2.2.1, u4.2.2.2.2.2.2.2.1, u4.2.2.2.2.2.2.2.2), w_t_now, w_t_seen, t_images_1_kept, t_images_0_kept)))
set_option maxHeartbeats 4000000 in
set_option maxRecDepth 100000 in
theorem b_X6_text_0 {p : Program} {l : Launch} {e : Env} {s : State} {m : MethodId} {args : Array Value} {below : List Frame} {meth : Method} {c : Code} {D : va_G} {cy : Nat → ClassId} {A : Nat → Prop} {X : (Nat → Nat) × (Nat → Nat)} {q_t : Nat} {q_t_reader : Nat} {q_t_trial : Nat} {q_t_trial_kind : Nat} {q_t_trial_grief : Nat} {q_t_trial_bears : Nat} {q_t_trial_rota : Nat} {q_t_tape : Nat} {q_t_tape_bytes : Nat} {q_t_now : Nat} {q_t_now_kind : Nat} {q_t_now_grief : Nat} {q_t_now_bears : Nat} {q_t_now_rota : Nat} {q_t_seen : Nat} {q_t_seen_behind : Nat} {q_t_seen_who : Nat} {q_t_seen_grief : Nat} {q_t_images : Nat} {q_t_images_1 : Nat} {q_t_images_0 : Nat} {q_t_guesses : Nat} {q_t_sheets : Nat} {q_t_row : Nat} {q_t_bestRow : Nat} {q_t_images_1_world : Nat} {q_t_images_1_seen : Nat} {q_t_images_0_world : Nat} {q_t_images_0_seen : Nat} {t_torn : Int32} {res : Int32 × s_R × s_W × s_T × s_W × s_V × Int32 × Int32}  {f : Nat} {w_t_reader : s_R} {w_t_trial : s_W} {w_t_tape : s_T} {w_t_now : s_W} {w_t_seen : s_V} {t_images_1_kept : Int32} {t_images_0_kept : Int32}  (C0 : cx_C cX6_text ((some .int)) 3 RX6 (.code yX6_text cX6_text 3 ((some .int)) :: wg_L) p s m args meth c D cy A) (E0 : sx_E X A s s.heap)  (h : B_X6_text_0 f w_t_reader w_t_trial w_t_tape w_t_now w_t_seen t_images_1_kept t_images_0_kept = some res) {H : Heap} {locs : List Loc} {ls : Array Slot} (hP : va_P D vwCl (wc_X6_text cy q_t q_t_reader q_t_trial q_t_trial_kind q_t_trial_grief q_t_trial_bears q_t_trial_rota q_t_tape q_t_tape_bytes q_t_now q_t_now_kind q_t_now_grief q_t_now_bears q_t_now_rota q_t_seen q_t_seen_behind q_t_seen_who q_t_seen_grief q_t_images q_t_images_1 q_t_images_0 q_t_guesses q_t_sheets q_t_row q_t_bestRow q_t_images_1_world q_t_images_1_seen q_t_images_0_world q_t_images_0_seen t_torn w_t_reader w_t_trial w_t_tape w_t_now w_t_seen t_images_1_kept t_images_0_kept) H) (hD : va_D A (wc_X6_text cy q_t q_t_reader q_t_trial q_t_trial_kind q_t_trial_grief q_t_trial_bears q_t_trial_rota q_t_tape q_t_tape_bytes q_t_now q_t_now_kind q_t_now_grief q_t_now_bears q_t_now_rota q_t_seen q_t_seen_behind q_t_seen_who q_t_seen_grief q_t_images q_t_images_1 q_t_images_0 q_t_guesses q_t_sheets q_t_row q_t_bestRow q_t_images_1_world q_t_images_1_seen q_t_images_0_world q_t_images_0_seen t_torn w_t_reader w_t_trial w_t_tape w_t_now w_t_seen t_images_1_kept t_images_0_kept)) (hS : va_S A s.heap H locs) (hl : lv_has ls 3 [(0, .ref q_t)]) : W p l e rm_X6_text s m args below meth c H locs 0 0 (qq_X6_text below args s D cy A q_t q_t_reader q_t_trial q_t_trial_kind q_t_trial_grief q_t_trial_bears q_t_trial_rota q_t_tape q_t_tape_bytes q_t_now q_t_now_kind q_t_now_grief q_t_now_bears q_t_now_rota q_t_seen q_t_seen_behind q_t_seen_who q_t_seen_grief q_t_images q_t_images_1 q_t_images_0 q_t_guesses q_t_sheets q_t_row q_t_bestRow q_t_images_1_world q_t_images_1_seen q_t_images_0_world q_t_images_0_seen t_torn res) (F0 m 0 ls []) := by
  obtain ⟨hx, hb, hr, hml, hown, hts, hK, hlocks, hA⟩ := id C0
  unfold B_X6_text_0 at h
  refine lv_aload_n hx hb dX6_text_0 rfl (lv_at hl 0 rfl) ?_
  refine va_get (D := D) (ci := 6) (v := .ref q_t_reader) (C := RX6) (T := TX6) (N := 11) hx hb hts (fun w hw => List.mem_cons_of_mem _ (uw_X6 w hw)) hown hK.1 hP 0 rfl rfl 7 (by decide) (hts _ (List.mem_cons_of_mem _ k_209)) (fun _ h9 => h9) rfl dX6_text_1 ?_
  obtain ⟨u4, hc4, h⟩ := bd_d h
  have hPc := hP.sub (ws' := wc_X1_tell cy q_t_reader q_t_trial q_t_trial_kind q_t_trial_grief q_t_trial_bears q_t_trial_rota q_t_tape q_t_tape_bytes w_t_reader w_t_trial w_t_tape) [1, 2, 3, 4, 5, 6, 7, 8] rfl
  have hDc := hD.sub (ws' := wc_X1_tell cy q_t_reader q_t_trial q_t_trial_kind q_t_trial_grief q_t_trial_bears q_t_trial_rota q_t_tape q_t_tape_bytes w_t_reader w_t_trial w_t_tape) [1, 2, 3, 4, 5, 6, 7, 8] (by decide) rfl
  have hEc := sx_nar (sx_kept E0 hS.2.1) (va_free (wc := wc_X1_tell cy q_t_reader q_t_trial q_t_trial_kind q_t_trial_grief q_t_trial_bears q_t_trial_rota q_t_tape q_t_tape_bytes w_t_reader w_t_trial w_t_tape) hD hS hA [1, 2, 3, 4, 5, 6, 7, 8] rfl)
  refine cl_i (fun (u : s_R × s_W × s_T) => wc_X6_text cy q_t q_t_reader q_t_trial q_t_trial_kind q_t_trial_grief q_t_trial_bears q_t_trial_rota q_t_tape q_t_tape_bytes q_t_now q_t_now_kind q_t_now_grief q_t_now_bears q_t_now_rota q_t_seen q_t_seen_behind q_t_seen_who q_t_seen_grief q_t_images q_t_images_1 q_t_images_0 q_t_guesses q_t_sheets q_t_row q_t_bestRow q_t_images_1_world q_t_images_1_seen q_t_images_0_world q_t_images_0_seen t_torn u.1 u.2.1 u.2.2 w_t_now w_t_seen t_images_1_kept t_images_0_kept) (va_runV (As := []) (rest := []) (C := RX1) ⟨hx, hb, hml, hown, hts⟩ (c_X1_tell l D cy H.size X q_t_reader q_t_trial q_t_trial_kind q_t_trial_grief q_t_trial_bears q_t_trial_rota q_t_tape q_t_tape_bytes w_t_reader w_t_trial w_t_tape hc4) ⟨callB_of 0 hts (wg_in k_254) rfl rfl rfl (hts _ (List.mem_cons_of_mem _ k_5)) (hts _ (List.mem_cons_of_mem _ k_251)) (by decide +kernel) ⟨by decide, by decide⟩, (hts _ (List.mem_cons_of_mem _ k_252)), (hts _ (List.mem_cons_of_mem _ k_253))⟩ ⟨sx_blind, va_recv hK.1 hPc (ci := 1) (q0 := 0) rfl rfl, fun U hU hW => sx_pre hK hPc hDc hEc hU hW⟩ rfl rfl hl.1 rfl (lv_room (Nat.le_of_ble_eq_true rfl)) dX6_text_4 ⟨by decide, by decide⟩) hP hD hS hA [1, 2, 3, 4, 5, 6, 7, 8] [0, 9, 10, 11, 12, 13, 14, 15, 16, 17, 18, 19, 20] [0, 13, 14, 15, 16, 17, 18, 19, 20, 1, 2, 3, 4, 5, 6, 7, 8, 9, 10, 11, 12] rfl rfl (by decide) (by decide) (by decide) (fun _ => rfl) (fun r u H locs hw hP hD hS => ?_)
  obtain ⟨rfl, rfl⟩ := hw
  have hP : va_P D vwCl (wc_X6_text cy q_t q_t_reader q_t_trial q_t_trial_kind q_t_trial_grief q_t_trial_bears q_t_trial_rota q_t_tape q_t_tape_bytes q_t_now q_t_now_kind q_t_now_grief q_t_now_bears q_t_now_rota q_t_seen q_t_seen_behind q_t_seen_who q_t_seen_grief q_t_images q_t_images_1 q_t_images_0 q_t_guesses q_t_sheets q_t_row q_t_bestRow q_t_images_1_world q_t_images_1_seen q_t_images_0_world q_t_images_0_seen t_torn u4.2.1 u4.2.2.1 u4.2.2.2 w_t_now w_t_seen t_images_1_kept t_images_0_kept) H := hP
  have hD : va_D A (wc_X6_text cy q_t q_t_reader q_t_trial q_t_trial_kind q_t_trial_grief q_t_trial_bears q_t_trial_rota q_t_tape q_t_tape_bytes q_t_now q_t_now_kind q_t_now_grief q_t_now_bears q_t_now_rota q_t_seen q_t_seen_behind q_t_seen_who q_t_seen_grief q_t_images q_t_images_1 q_t_images_0 q_t_guesses q_t_sheets q_t_row q_t_bestRow q_t_images_1_world q_t_images_1_seen q_t_images_0_world q_t_images_0_seen t_torn u4.2.1 u4.2.2.1 u4.2.2.2 w_t_now w_t_seen t_images_1_kept t_images_0_kept) := hD
  refine lv_istore_n (lv' := [(1, .int u4.1), (0, .ref q_t)]) hx hb dX6_text_7 rfl hl (by decide) rfl (fun ls hl => ?_)
  refine lv_aload_n hx hb dX6_text_8 rfl (lv_at hl 1 rfl) ?_
  refine va_get (D := D) (ci := 6) (v := .ref q_t_tape) (C := RX6) (T := TX6) (N := 11) hx hb hts (fun w hw => List.mem_cons_of_mem _ (uw_X6 w hw)) hown hK.1 hP 0 rfl rfl 6 (by decide) (hts _ (List.mem_cons_of_mem _ k_208)) (fun _ h9 => h9) rfl dX6_text_9 ?_
  refine lv_iconst (v := 0) hx hb dX6_text_12 (by decide) ?_
  refine va_put (D := D) (ci := 4) (v := .int 0) (ty := .int) (C := RX4) (T := TX4) (N := 6) hx hb hts (fun w hw => List.mem_cons_of_mem _ (uw_X4 w hw)) tyX4 tyX4_ok nmX4 hown hK.1 hP hD hS 7 rfl rfl 1 (by decide) (hts _ (List.mem_cons_of_mem _ k_117)) (fun _ h9 => h9) rfl (by decide +kernel) rfl rfl (Nat.le_of_ble_eq_true rfl) dX6_text_13 (fun H locs hP hD hS => ?_)
  have hP : va_P D vwCl (wc_X6_text cy q_t q_t_reader q_t_trial q_t_trial_kind q_t_trial_grief q_t_trial_bears q_t_trial_rota q_t_tape q_t_tape_bytes q_t_now q_t_now_kind q_t_now_grief q_t_now_bears q_t_now_rota q_t_seen q_t_seen_behind q_t_seen_who q_t_seen_grief q_t_images q_t_images_1 q_t_images_0 q_t_guesses q_t_sheets q_t_row q_t_bestRow q_t_images_1_world q_t_images_1_seen q_t_images_0_world q_t_images_0_seen t_torn u4.2.1 u4.2.2.1 (0, u4.2.2.2.2.1, u4.2.2.2.2.2.1, u4.2.2.2.2.2.2.1, u4.2.2.2.2.2.2.2.1, u4.2.2.2.2.2.2.2.2) w_t_now w_t_seen t_images_1_kept t_images_0_kept) H := hP
  have hD : va_D A (wc_X6_text cy q_t q_t_reader q_t_trial q_t_trial_kind q_t_trial_grief q_t_trial_bears q_t_trial_rota q_t_tape q_t_tape_bytes q_t_now q_t_now_kind q_t_now_grief q_t_now_bears q_t_now_rota q_t_seen q_t_seen_behind q_t_seen_who q_t_seen_grief q_t_images q_t_images_1 q_t_images_0 q_t_guesses q_t_sheets q_t_row q_t_bestRow q_t_images_1_world q_t_images_1_seen q_t_images_0_world q_t_images_0_seen t_torn u4.2.1 u4.2.2.1 (0, u4.2.2.2.2.1, u4.2.2.2.2.2.1, u4.2.2.2.2.2.2.1, u4.2.2.2.2.2.2.2.1, u4.2.2.2.2.2.2.2.2) w_t_now w_t_seen t_images_1_kept t_images_0_kept) := hD
  refine lv_aload_n hx hb dX6_text_16 rfl (lv_at hl 1 rfl) ?_
  refine va_get (D := D) (ci := 6) (v := .ref q_t_reader) (C := RX6) (T := TX6) (N := 11) hx hb hts (fun w hw => List.mem_cons_of_mem _ (uw_X6 w hw)) hown hK.1 hP 0 rfl rfl 7 (by decide) (hts _ (List.mem_cons_of_mem _ k_209)) (fun _ h9 => h9) rfl dX6_text_17 ?_
  refine va_get (D := D) (ci := 1) (v := .int u4.2.1.2.2) (C := RX1) (T := TX1) (N := 5) hx hb hts (fun w hw => List.mem_cons_of_mem _ (uw_X1 w hw)) hown hK.1 hP 1 rfl rfl 4 (by decide) (hts _ (List.mem_cons_of_mem _ k_152)) (fun _ h9 => h9) rfl dX6_text_20 ?_
  refine lv_if_ne (tgt := 68) hx hb dX6_text_23 (by decide) (fun c23 => ?_) (fun c23 => ?_)
  · replace h := it_n c23 h
    refine lv_iload_n hx hb dX6_text_68 rfl (lv_at hl 0 rfl) ?_
    obtain rfl := Option.some.inj h
    exact W.iret (v := u4.1) hx hb hr (fun tt ht hW => ⟨⟨u4.1, (u4.2.1, u4.2.2.1, (0, u4.2.2.2.2.1, u4.2.2.2.2.2.1, u4.2.2.2.2.2.2.1, u4.2.2.2.2.2.2.2.1, u4.2.2.2.2.2.2.2.2), w_t_now, w_t_seen, t_images_1_kept, t_images_0_kept), rfl, ⟨rfl, rfl⟩, by rw [ht]; exact hP, kk_warm hW hK, hD⟩, hS.F ht⟩) hS.2.2 dX6_text_69
  · replace h := it_p c23 h
    refine lv_aload_n hx hb dX6_text_26 rfl (lv_at hl 1 rfl) ?_
    refine va_get (D := D) (ci := 6) (v := .ref q_t_now) (C := RX6) (T := TX6) (N := 11) hx hb hts (fun w hw => List.mem_cons_of_mem _ (uw_X6 w hw)) hown hK.1 hP 0 rfl rfl 0 (by decide) (hts _ (List.mem_cons_of_mem _ k_202)) (fun _ h9 => h9) rfl dX6_text_27 ?_
    refine lv_aload_n hx hb dX6_text_30 rfl (lv_at hl 1 rfl) ?_
    refine va_get (D := D) (ci := 6) (v := .ref q_t_trial) (C := RX6) (T := TX6) (N := 11) hx hb hts (fun w hw => List.mem_cons_of_mem _ (uw_X6 w hw)) hown hK.1 hP 0 rfl rfl 1 (by decide) (hts _ (List.mem_cons_of_mem _ k_203)) (fun _ h9 => h9) rfl dX6_text_31 ?_
    obtain ⟨u34, hc34, h⟩ := bd_d h
    have hPc := hP.sub (ws' := wc_X5_become cy q_t_now q_t_now_kind q_t_now_grief q_t_now_bears q_t_now_rota q_t_trial q_t_trial_kind q_t_trial_grief q_t_trial_bears q_t_trial_rota w_t_now u4.2.2.1) [9, 10, 11, 12, 13, 2, 3, 4, 5, 6] rfl
    have hDc := hD.sub (ws' := wc_X5_become cy q_t_now q_t_now_kind q_t_now_grief q_t_now_bears q_t_now_rota q_t_trial q_t_trial_kind q_t_trial_grief q_t_trial_bears q_t_trial_rota w_t_now u4.2.2.1) [9, 10, 11, 12, 13, 2, 3, 4, 5, 6] (by decide) rfl
    refine cl_v (fun (u : s_W) => wc_X6_text cy q_t q_t_reader q_t_trial q_t_trial_kind q_t_trial_grief q_t_trial_bears q_t_trial_rota q_t_tape q_t_tape_bytes q_t_now q_t_now_kind q_t_now_grief q_t_now_bears q_t_now_rota q_t_seen q_t_seen_behind q_t_seen_who q_t_seen_grief q_t_images q_t_images_1 q_t_images_0 q_t_guesses q_t_sheets q_t_row q_t_bestRow q_t_images_1_world q_t_images_1_seen q_t_images_0_world q_t_images_0_seen t_torn u4.2.1 u4.2.2.1 (0, u4.2.2.2.2.1, u4.2.2.2.2.2.1, u4.2.2.2.2.2.2.1, u4.2.2.2.2.2.2.2.1, u4.2.2.2.2.2.2.2.2) u w_t_seen t_images_1_kept t_images_0_kept) (va_runV (As := [.ref q_t_trial]) (rest := []) (C := RX5) ⟨hx, hb, hml, hown, hts⟩ (c_X5_become l D cy H.size q_t_now q_t_now_kind q_t_now_grief q_t_now_bears q_t_now_rota q_t_trial q_t_trial_kind q_t_trial_grief q_t_trial_bears q_t_trial_rota w_t_now u4.2.2.1 hc34) ⟨callB_of 1 hts (wg_in k_380) rfl rfl rfl (hts _ (List.mem_cons_of_mem _ k_2)) (hts _ (List.mem_cons_of_mem _ k_377)) (by decide +kernel) ⟨by decide, by decide⟩, (hts _ (List.mem_cons_of_mem _ k_378)), (hts _ (List.mem_cons_of_mem _ k_379))⟩ ⟨st_blind, va_recv hK.1 hPc (ci := 5) (q0 := 0) rfl rfl, fun U hU hW => st_pre hK hPc hDc hU hW⟩ rfl rfl hl.1 rfl (lv_room (Nat.le_of_ble_eq_true rfl)) dX6_text_34 ⟨by decide, by decide⟩) hP hD hS hA [9, 10, 11, 12, 13, 2, 3, 4, 5, 6] [0, 1, 7, 8, 14, 15, 16, 17, 18, 19, 20] [0, 1, 16, 17, 18, 19, 20, 2, 3, 11, 12, 13, 14, 15, 4, 5, 6, 7, 8, 9, 10] rfl rfl (by decide) (by decide) (by decide) (fun _ => rfl) (fun u H locs hw hP hD hS => ?_)
    obtain rfl := hw.symm
    have hP : va_P D vwCl (wc_X6_text cy q_t q_t_reader q_t_trial q_t_trial_kind q_t_trial_grief q_t_trial_bears q_t_trial_rota q_t_tape q_t_tape_bytes q_t_now q_t_now_kind q_t_now_grief q_t_now_bears q_t_now_rota q_t_seen q_t_seen_behind q_t_seen_who q_t_seen_grief q_t_images q_t_images_1 q_t_images_0 q_t_guesses q_t_sheets q_t_row q_t_bestRow q_t_images_1_world q_t_images_1_seen q_t_images_0_world q_t_images_0_seen t_torn u4.2.1 u4.2.2.1 (0, u4.2.2.2.2.1, u4.2.2.2.2.2.1, u4.2.2.2.2.2.2.1, u4.2.2.2.2.2.2.2.1, u4.2.2.2.2.2.2.2.2) u34 w_t_seen t_images_1_kept t_images_0_kept) H := hP
    have hD : va_D A (wc_X6_text cy q_t q_t_reader q_t_trial q_t_trial_kind q_t_trial_grief q_t_trial_bears q_t_trial_rota q_t_tape q_t_tape_bytes q_t_now q_t_now_kind q_t_now_grief q_t_now_bears q_t_now_rota q_t_seen q_t_seen_behind q_t_seen_who q_t_seen_grief q_t_images q_t_images_1 q_t_images_0 q_t_guesses q_t_sheets q_t_row q_t_bestRow q_t_images_1_world q_t_images_1_seen q_t_images_0_world q_t_images_0_seen t_torn u4.2.1 u4.2.2.1 (0, u4.2.2.2.2.1, u4.2.2.2.2.2.1, u4.2.2.2.2.2.2.1, u4.2.2.2.2.2.2.2.1, u4.2.2.2.2.2.2.2.2) u34 w_t_seen t_images_1_kept t_images_0_kept) := hD
    refine lv_aload_n hx hb dX6_text_37 rfl (lv_at hl 1 rfl) ?_
    refine va_get (D := D) (ci := 6) (v := .ref q_t_seen) (C := RX6) (T := TX6) (N := 11) hx hb hts (fun w hw => List.mem_cons_of_mem _ (uw_X6 w hw)) hown hK.1 hP 0 rfl rfl 3 (by decide) (hts _ (List.mem_cons_of_mem _ k_205)) (fun _ h9 => h9) rfl dX6_text_38 ?_
    refine lv_iconst (v := 0) hx hb dX6_text_41 (by decide) ?_
    refine va_put (D := D) (ci := 3) (v := .int 0) (ty := .int) (C := RX3) (T := TX3) (N := 4) hx hb hts (fun w hw => List.mem_cons_of_mem _ (uw_X3 w hw)) tyX3 tyX3_ok nmX3 hown hK.1 hP hD hS 14 rfl rfl 3 (by decide) (hts _ (List.mem_cons_of_mem _ k_94)) (fun _ h9 => h9) rfl (by decide +kernel) rfl rfl (Nat.le_of_ble_eq_true rfl) dX6_text_42 (fun H locs hP hD hS => ?_)
    have hP : va_P D vwCl (wc_X6_text cy q_t q_t_reader q_t_trial q_t_trial_kind q_t_trial_grief q_t_trial_bears q_t_trial_rota q_t_tape q_t_tape_bytes q_t_now q_t_now_kind q_t_now_grief q_t_now_bears q_t_now_rota q_t_seen q_t_seen_behind q_t_seen_who q_t_seen_grief q_t_images q_t_images_1 q_t_images_0 q_t_guesses q_t_sheets q_t_row q_t_bestRow q_t_images_1_world q_t_images_1_seen q_t_images_0_world q_t_images_0_seen t_torn u4.2.1 u4.2.2.1 (0, u4.2.2.2.2.1, u4.2.2.2.2.2.1, u4.2.2.2.2.2.2.1, u4.2.2.2.2.2.2.2.1, u4.2.2.2.2.2.2.2.2) u34 (0, w_t_seen.2.1, w_t_seen.2.2.1, w_t_seen.2.2.2) t_images_1_kept t_images_0_kept) H := hP
    have hD : va_D A (wc_X6_text cy q_t q_t_reader q_t_trial q_t_trial_kind q_t_trial_grief q_t_trial_bears q_t_trial_rota q_t_tape q_t_tape_bytes q_t_now q_t_now_kind q_t_now_grief q_t_now_bears q_t_now_rota q_t_seen q_t_seen_behind q_t_seen_who q_t_seen_grief q_t_images q_t_images_1 q_t_images_0 q_t_guesses q_t_sheets q_t_row q_t_bestRow q_t_images_1_world q_t_images_1_seen q_t_images_0_world q_t_images_0_seen t_torn u4.2.1 u4.2.2.1 (0, u4.2.2.2.2.1, u4.2.2.2.2.2.1, u4.2.2.2.2.2.2.1, u4.2.2.2.2.2.2.2.1, u4.2.2.2.2.2.2.2.2) u34 (0, w_t_seen.2.1, w_t_seen.2.2.1, w_t_seen.2.2.2) t_images_1_kept t_images_0_kept) := hD
    refine lv_iconst (v := 0) hx hb dX6_text_45 (by decide) ?_
    refine lv_istore_n (lv' := [(2, .int 0), (1, .int u4.1), (0, .ref q_t)]) hx hb dX6_text_46 rfl hl (by decide) rfl (fun ls hl => ?_)
    exact t_X6_text_47 C0 E0 _ _ _ _ _ _ _ _ _ _ h _ _ _ hP hD hS (lv_sub hl [2, 1, 0] rfl)
def M_X6_text   (f : Nat) (w_t_reader : s_R) (w_t_trial : s_W) (w_t_tape : s_T) (w_t_now : s_W) (w_t_seen : s_V) (t_images_1_kept : Int32) (t_images_0_kept : Int32)  : Option (Int32 × s_R × s_W × s_T × s_W × s_V × Int32 × Int32) := B_X6_text_0 f w_t_reader w_t_trial w_t_tape w_t_now w_t_seen t_images_1_kept t_images_0_kept
set_option maxHeartbeats 4000000 in
set_option maxRecDepth 100000 in
theorem c_X6_text (l : Launch) (D : va_G) (cy : Nat → ClassId) (sz : Nat) (X : (Nat → Nat) × (Nat → Nat)) (q_t : Nat) (q_t_reader : Nat) (q_t_trial : Nat) (q_t_trial_kind : Nat) (q_t_trial_grief : Nat) (q_t_trial_bears : Nat) (q_t_trial_rota : Nat) (q_t_tape : Nat) (q_t_tape_bytes : Nat) (q_t_now : Nat) (q_t_now_kind : Nat) (q_t_now_grief : Nat) (q_t_now_bears : Nat) (q_t_now_rota : Nat) (q_t_seen : Nat) (q_t_seen_behind : Nat) (q_t_seen_who : Nat) (q_t_seen_grief : Nat) (q_t_images : Nat) (q_t_images_1 : Nat) (q_t_images_0 : Nat) (q_t_guesses : Nat) (q_t_sheets : Nat) (q_t_row : Nat) (q_t_bestRow : Nat) (q_t_images_1_world : Nat) (q_t_images_1_seen : Nat) (q_t_images_0_world : Nat) (q_t_images_0_seen : Nat) (t_torn : Int32) (w_t_reader : s_R) (w_t_trial : s_W) (w_t_tape : s_T) (w_t_now : s_W) (w_t_seen : s_V) (t_images_1_kept : Int32) (t_images_0_kept : Int32)  {f : Nat} {res : Int32 × s_R × s_W × s_T × s_W × s_V × Int32 × Int32} (h : M_X6_text f w_t_reader w_t_trial w_t_tape w_t_now w_t_seen t_images_1_kept t_images_0_kept = some res) : cx_i l yX6_text (.code yX6_text cX6_text 3 ((some .int)) :: wg_L) rm_X6_text D cy sz X (wc_X6_text cy q_t q_t_reader q_t_trial q_t_trial_kind q_t_trial_grief q_t_trial_bears q_t_trial_rota q_t_tape q_t_tape_bytes q_t_now q_t_now_kind q_t_now_grief q_t_now_bears q_t_now_rota q_t_seen q_t_seen_behind q_t_seen_who q_t_seen_grief q_t_images q_t_images_1 q_t_images_0 q_t_guesses q_t_sheets q_t_row q_t_bestRow q_t_images_1_world q_t_images_1_seen q_t_images_0_world q_t_images_0_seen t_torn w_t_reader w_t_trial w_t_tape w_t_now w_t_seen t_images_1_kept t_images_0_kept) [.ref q_t] (fun r (u : s_R × s_W × s_T × s_W × s_V × Int32 × Int32) => r = res.1 ∧ u = res.2) (fun (u : s_R × s_W × s_T × s_W × s_V × Int32 × Int32) => wc_X6_text cy q_t q_t_reader q_t_trial q_t_trial_kind q_t_trial_grief q_t_trial_bears q_t_trial_rota q_t_tape q_t_tape_bytes q_t_now q_t_now_kind q_t_now_grief q_t_now_bears q_t_now_rota q_t_seen q_t_seen_behind q_t_seen_who q_t_seen_grief q_t_images q_t_images_1 q_t_images_0 q_t_guesses q_t_sheets q_t_row q_t_bestRow q_t_images_1_world q_t_images_1_seen q_t_images_0_world q_t_images_0_seen t_torn u.1 u.2.1 u.2.2.1 u.2.2.2.1 u.2.2.2.2.1 u.2.2.2.2.2.1 u.2.2.2.2.2.2) := by
  refine Met.ofW (cc := cX6_text) (maxL := 3) (ret := (some .int)) (by decide) rfl ?_
  intro p e s m args below meth c s₁ B hml hv
  obtain ⟨rfl, hsz, hP, hK, hD0, hE⟩ := hv
  subst hsz
  have hD := hD0.self (sz := s.heap.size)
  have hl := lv_entry ([.ref q_t]) (n := 3) (Nat.le_of_ble_eq_true rfl)
  rw [lg_entry_eq]
  have C0 : cx_C cX6_text ((some .int)) 3 RX6 (.code yX6_text cX6_text 3 ((some .int)) :: wg_L) p s m [.ref q_t].toArray meth c D cy (va_A (wc_X6_text cy q_t q_t_reader q_t_trial q_t_trial_kind q_t_trial_grief q_t_trial_bears q_t_trial_rota q_t_tape q_t_tape_bytes q_t_now q_t_now_kind q_t_now_grief q_t_now_bears q_t_now_rota q_t_seen q_t_seen_behind q_t_seen_who q_t_seen_grief q_t_images q_t_images_1 q_t_images_0 q_t_guesses q_t_sheets q_t_row q_t_bestRow q_t_images_1_world q_t_images_1_seen q_t_images_0_world q_t_images_0_seen t_torn w_t_reader w_t_trial w_t_tape w_t_now w_t_seen t_images_1_kept t_images_0_kept) s.heap.size) := ⟨B.exec, B.bytes, B.returns, hml, findClass_of_methodNamed B.named, atoms_spec (ws := .code yX6_text cX6_text 3 ((some .int)) :: wg_L) B.pre, hK, B.notSynchronized, fun q h => Or.inr h⟩
  exact b_X6_text_0 C0 hE h hP hD va_S.rf (lv_sub hl [0] rfl)
