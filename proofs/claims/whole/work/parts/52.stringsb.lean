/-! ### the JDK's own: length, charAt of the words -/
theorem c_J3_checkIndex (l : Launch) (D : va_G) (cy : Nat → ClassId) (sz : Nat) (X : (Nat → Nat) × (Nat → Nat)) {i n : Int32} {q : Value} (hq : q = .null ∨ ∃ t, q = .ref t) (h0 : ¬ i < 0) (h1 : i < n) : cx_i l yJ3_checkIndex_8e157 (.code yJ3_checkIndex_8e157 cJ3_checkIndex_8e157 3 (some .int) :: wg_L) rm_J0_coder D cy sz X [] [.int i, .int n, q] (fun r (_ : Unit) => r = i) (fun _ => []) := by
  have core : ∀ q : Value, q.category = 1 → (q = .null ∨ ∃ t, q = .ref t) → cx_i l yJ3_checkIndex_8e157 (.code yJ3_checkIndex_8e157 cJ3_checkIndex_8e157 3 (some .int) :: wg_L) rm_J0_coder D cy sz X [] [.int i, .int n, q] (fun r (_ : Unit) => r = i) (fun _ => []) := by
    intro q _ hq
    rcases hq with rfl | ⟨t, rfl⟩
    · refine Met.ofW (cc := cJ3_checkIndex_8e157) (maxL := 3) (ret := some .int) (by decide) rfl ?_
      intro p e s m args below meth c s₁ B hml hv
      obtain ⟨rfl, hsz, hP, hK, hD0, hE⟩ := hv
      subst hsz
      have hD := hD0.self (sz := s.heap.size)
      have hl := lv_entry ([.int i, .int n, .null]) (n := 3) (Nat.le_of_ble_eq_true rfl)
      rw [lg_entry_eq]
      have hx := B.exec
      have hb := B.bytes
      have hr := B.returns
      have hown := findClass_of_methodNamed B.named
      have hts := atoms_spec (ws := .code yJ3_checkIndex_8e157 cJ3_checkIndex_8e157 3 (some .int) :: wg_L) B.pre
      have hlocks := B.notSynchronized
      have hA : ∀ q, s.heap.size ≤ q → va_A ([] : va_W) s.heap.size q := fun q h => Or.inr h
      have hS : va_S (va_A ([] : va_W) s.heap.size) s.heap s.heap [] := va_S.rf
      refine lv_iload_n hx hb dJ3_checkIndex_8e157_0 rfl (lv_at hl 0 rfl) ?_
      refine lv_if_lt (tgt := 9) hx hb dJ3_checkIndex_8e157_1 (by decide) (fun z => absurd z h0) (fun _ => ?_)
      refine lv_iload_n hx hb dJ3_checkIndex_8e157_4 rfl (lv_at hl 0 rfl) ?_
      refine lv_iload_n hx hb dJ3_checkIndex_8e157_5 rfl (lv_at hl 1 rfl) ?_
      refine lv_icmp_lt (tgt := 16) hx hb dJ3_checkIndex_8e157_6 (by decide) (fun _ => ?_) (fun z => absurd h1 z)
      refine lv_iload_n hx hb dJ3_checkIndex_8e157_16 rfl (lv_at hl 0 rfl) ?_
      exact W.iret (v := i) hx hb hr (fun tt ht hW => ⟨⟨i, (), rfl, rfl, by rw [ht]; exact hP, kk_warm hW hK, hD⟩, hS.F ht⟩) hS.2.2 dJ3_checkIndex_8e157_17
    · refine Met.ofW (cc := cJ3_checkIndex_8e157) (maxL := 3) (ret := some .int) (by decide) rfl ?_
      intro p e s m args below meth c s₁ B hml hv
      obtain ⟨rfl, hsz, hP, hK, hD0, hE⟩ := hv
      subst hsz
      have hD := hD0.self (sz := s.heap.size)
      have hl := lv_entry ([.int i, .int n, .ref t]) (n := 3) (Nat.le_of_ble_eq_true rfl)
      rw [lg_entry_eq]
      have hx := B.exec
      have hb := B.bytes
      have hr := B.returns
      have hown := findClass_of_methodNamed B.named
      have hts := atoms_spec (ws := .code yJ3_checkIndex_8e157 cJ3_checkIndex_8e157 3 (some .int) :: wg_L) B.pre
      have hlocks := B.notSynchronized
      have hA : ∀ q, s.heap.size ≤ q → va_A ([] : va_W) s.heap.size q := fun q h => Or.inr h
      have hS : va_S (va_A ([] : va_W) s.heap.size) s.heap s.heap [] := va_S.rf
      refine lv_iload_n hx hb dJ3_checkIndex_8e157_0 rfl (lv_at hl 0 rfl) ?_
      refine lv_if_lt (tgt := 9) hx hb dJ3_checkIndex_8e157_1 (by decide) (fun z => absurd z h0) (fun _ => ?_)
      refine lv_iload_n hx hb dJ3_checkIndex_8e157_4 rfl (lv_at hl 0 rfl) ?_
      refine lv_iload_n hx hb dJ3_checkIndex_8e157_5 rfl (lv_at hl 1 rfl) ?_
      refine lv_icmp_lt (tgt := 16) hx hb dJ3_checkIndex_8e157_6 (by decide) (fun _ => ?_) (fun z => absurd h1 z)
      refine lv_iload_n hx hb dJ3_checkIndex_8e157_16 rfl (lv_at hl 0 rfl) ?_
      exact W.iret (v := i) hx hb hr (fun tt ht hW => ⟨⟨i, (), rfl, rfl, by rw [ht]; exact hP, kk_warm hW hK, hD⟩, hS.F ht⟩) hS.2.2 dJ3_checkIndex_8e157_17
  rcases hq with rfl | ⟨t, rfl⟩
  · exact core .null rfl (Or.inl rfl)
  · exact core (.ref t) rfl (Or.inr ⟨t, rfl⟩)
abbrev rm_J0_checkIndex : Room := { frames := 1, cells := 0, slots := 0, locals := 22 }
theorem c_J0_checkIndex (l : Launch) (D : va_G) (cy : Nat → ClassId) (sz : Nat) (X : (Nat → Nat) × (Nat → Nat)) {i n : Int32} (h0 : ¬ i < 0) (h1 : i < n) : cx_v l yJ0_checkIndex_df160 (.code yJ0_checkIndex_df160 cJ0_checkIndex_df160 2 none :: wg_L) rm_J0_checkIndex D cy sz X [] [.int i, .int n] (fun (_ : Unit) => True) (fun _ => []) := by
  refine Met.ofW (cc := cJ0_checkIndex_df160) (maxL := 2) (ret := none) (by decide) rfl ?_
  intro p e s m args below meth c s₁ B hml hv
  obtain ⟨rfl, hsz, hP, hK, hD0, hE⟩ := hv
  subst hsz
  have hD := hD0.self (sz := s.heap.size)
  have hl := lv_entry ([.int i, .int n]) (n := 2) (Nat.le_of_ble_eq_true rfl)
  rw [lg_entry_eq]
  have hx := B.exec
  have hb := B.bytes
  have hr := B.returns
  have hown := findClass_of_methodNamed B.named
  have hts := atoms_spec (ws := .code yJ0_checkIndex_df160 cJ0_checkIndex_df160 2 (none) :: wg_L) B.pre
  have hlocks := B.notSynchronized
  have hA : ∀ q, s.heap.size ≤ q → va_A ([] : va_W) s.heap.size q := fun q h => Or.inr h
  have hS : va_S (va_A ([] : va_W) s.heap.size) s.heap s.heap [] := va_S.rf
  refine lv_iload_n hx hb dJ0_checkIndex_df160_0 rfl (lv_at hl 0 rfl) ?_
  refine lv_iload_n hx hb dJ0_checkIndex_df160_1 rfl (lv_at hl 1 rfl) ?_
  rcases hE.2.2.1 with hZ | ⟨t, hZ⟩
  · refine va_gets (own := RJ0) hx hb hZ hS hown (hts _ (List.mem_cons_of_mem _ k_316)) (fun _ h => h) dJ0_checkIndex_df160_2 ?_
    have hPc := hP.sub (ws' := []) [] rfl
    have hDc := hD.sub (ws' := []) [] (by decide) rfl
    have hEc := sx_nar (sx_kept hE hS.2.1) (va_free (wc := []) hD hS hA [] rfl)
    refine cl_i (fun (_ : Unit) => []) (va_runS (As := [.int i, .int n, .null]) (rest := []) ⟨hx, hb, hml, hown, hts⟩ (c_J3_checkIndex l D cy s.heap.size X (Or.inl rfl) h0 h1) ⟨callB_of 3 hts (wg_in k_320) rfl rfl rfl (hts _ (List.mem_cons_of_mem _ k_11)) (hts _ (List.mem_cons_of_mem _ k_318)) (by decide +kernel) ⟨by decide, by decide⟩, (hts _ (List.mem_cons_of_mem _ k_319))⟩ ⟨sx_blind, fun U hU hW => sx_pre hK hPc hDc hEc hU hW⟩ rfl rfl hl.1 rfl (lv_room (Nat.le_of_ble_eq_true rfl)) dJ0_checkIndex_df160_5 ⟨by decide, by decide⟩) hP hD hS hA [] [] [] rfl rfl (by decide) (by decide) (by decide) (fun _ => rfl) (fun r u H locs hw hP hD hS => ?_)
    obtain rfl := hw.symm
    refine lv_pop hx hb dJ0_checkIndex_df160_8 rfl ?_
    exact W.vret hx hb hr (fun tt ht hW => ⟨⟨(), rfl, trivial, by rw [ht]; exact hP, kk_warm hW hK, hD⟩, hS.F ht⟩) hS.2.2 dJ0_checkIndex_df160_9
  · refine va_gets (own := RJ0) hx hb hZ hS hown (hts _ (List.mem_cons_of_mem _ k_316)) (fun _ h => h) dJ0_checkIndex_df160_2 ?_
    have hPc := hP.sub (ws' := []) [] rfl
    have hDc := hD.sub (ws' := []) [] (by decide) rfl
    have hEc := sx_nar (sx_kept hE hS.2.1) (va_free (wc := []) hD hS hA [] rfl)
    refine cl_i (fun (_ : Unit) => []) (va_runS (As := [.int i, .int n, .ref t]) (rest := []) ⟨hx, hb, hml, hown, hts⟩ (c_J3_checkIndex l D cy s.heap.size X (Or.inr ⟨t, rfl⟩) h0 h1) ⟨callB_of 3 hts (wg_in k_320) rfl rfl rfl (hts _ (List.mem_cons_of_mem _ k_11)) (hts _ (List.mem_cons_of_mem _ k_318)) (by decide +kernel) ⟨by decide, by decide⟩, (hts _ (List.mem_cons_of_mem _ k_319))⟩ ⟨sx_blind, fun U hU hW => sx_pre hK hPc hDc hEc hU hW⟩ rfl rfl hl.1 rfl (lv_room (Nat.le_of_ble_eq_true rfl)) dJ0_checkIndex_df160_5 ⟨by decide, by decide⟩) hP hD hS hA [] [] [] rfl rfl (by decide) (by decide) (by decide) (fun _ => rfl) (fun r u H locs hw hP hD hS => ?_)
    obtain rfl := hw.symm
    refine lv_pop hx hb dJ0_checkIndex_df160_8 rfl ?_
    exact W.vret hx hb hr (fun tt ht hW => ⟨⟨(), rfl, trivial, by rw [ht]; exact hP, kk_warm hW hK, hD⟩, hS.F ht⟩) hS.2.2 dJ0_checkIndex_df160_9
/-- a word's letter -/
def sy_n (k j : Nat) : Int32 := ((((sb_L.getD k []).getD j 0) &&& 255).toUInt32 % 65536).toInt32
theorem sy_nar : ∀ k, k < 6 → ∀ j, j < 6 → narrow .char (.int (sy_n k j)) = .int (sy_n k j) := by decide +kernel
theorem sl_6 : ∀ k, k < 6 → sl_L.getD k 0 ≤ 6 ∧ Int32.ofNat (sl_L.getD k 0) >>> ((0 : Int32) &&& 31) = nI (sl_L.getD k 0) := by decide +kernel
theorem vp_0 {i : Int32} {n : Nat} (hn : n < 2 ^ 31) (h : vp_in i n) : ¬ i < 0 ∧ i < nI n ∧ i.toNatClampNeg < n := by
  have h2 := vp_in_iff.mp h
  have h3 := nI_toInt hn
  refine ⟨fun q => ?_, ?_, ?_⟩
  · rw [Int32.lt_iff_toInt_lt, Int32.toInt_zero] at q; omega
  · rw [Int32.lt_iff_toInt_lt]; omega
  · show i.toInt.toNat < n
    omega
abbrev rm_J1_charAt : Room := { frames := 2, cells := 0, slots := 0, locals := 43 }
theorem c_J1_charAt (l : Launch) (D : va_G) (cy : Nat → ClassId) (sz : Nat) (X : (Nat → Nat) × (Nat → Nat)) {k : Nat} {i : Int32} (hk : k < 6) (hi : vp_in i (sl_L.getD k 0)) : cx_i l yJ1_charAt_3b067 (.code yJ1_charAt_3b067 cJ1_charAt_3b067 2 (some .char) :: wg_L) rm_J1_charAt D cy sz X [] [.ref (X.2 k), .int i] (fun r (_ : Unit) => r = sy_n k i.toNatClampNeg) (fun _ => []) := by
  have hs6 := (sl_6 k hk).1
  obtain ⟨h0, h1, h2⟩ := vp_0 (by omega) hi
  refine Met.ofW (cc := cJ1_charAt_3b067) (maxL := 2) (ret := some .char) (by decide) rfl ?_
  intro p e s m args below meth c s₁ B hml hv
  obtain ⟨rfl, hsz, hP, hK, hD0, hE⟩ := hv
  subst hsz
  have hD := hD0.self (sz := s.heap.size)
  have hl := lv_entry ([.ref (X.2 k), .int i]) (n := 2) (Nat.le_of_ble_eq_true rfl)
  rw [lg_entry_eq]
  have hx := B.exec
  have hb := B.bytes
  have hr := B.returns
  have hown := findClass_of_methodNamed B.named
  have hts := atoms_spec (ws := .code yJ1_charAt_3b067 cJ1_charAt_3b067 2 (some .char) :: wg_L) B.pre
  have hlocks := B.notSynchronized
  have hA : ∀ q, s.heap.size ≤ q → va_A ([] : va_W) s.heap.size q := fun q h => Or.inr h
  have hS : va_S (va_A ([] : va_W) s.heap.size) s.heap s.heap [] := va_S.rf
  refine lv_iload_n hx hb dJ1_charAt_3b067_0 rfl (lv_at hl 1 rfl) ?_
  refine lv_aload_n hx hb dJ1_charAt_3b067_1 rfl (lv_at hl 0 rfl) ?_
  refine va_tlen (v := nI (sl_L.getD k 0)) hx hb (hE.1.1 k hk).2.2.2 hS rfl dJ1_charAt_3b067_2 ?_
  have hPc := hP.sub (ws' := []) [] rfl
  have hDc := hD.sub (ws' := []) [] (by decide) rfl
  have hEc := sx_nar (sx_kept hE hS.2.1) (va_free (wc := []) hD hS hA [] rfl)
  refine cl_v (fun (_ : Unit) => []) (va_runS (As := [.int i, .int (nI (sl_L.getD k 0))]) (rest := []) ⟨hx, hb, hml, hown, hts⟩ (c_J0_checkIndex l D cy s.heap.size X h0 h1) ⟨callB_of 2 hts (wg_in k_315) rfl rfl rfl (hts _ (List.mem_cons_of_mem _ k_9)) (hts _ (List.mem_cons_of_mem _ k_313)) (by decide +kernel) ⟨by decide, by decide⟩, (hts _ (List.mem_cons_of_mem _ k_314))⟩ ⟨sx_blind, fun U hU hW => sx_pre hK hPc hDc hEc hU hW⟩ rfl rfl hl.1 rfl (lv_room (Nat.le_of_ble_eq_true rfl)) dJ1_charAt_3b067_3 ⟨by decide, by decide⟩) hP hD hS hA [] [] [] rfl rfl (by decide) (by decide) (by decide) (fun _ => rfl) (fun u H locs hw hP hD hS => ?_)
  refine lv_aload_n hx hb dJ1_charAt_3b067_6 rfl (lv_at hl 0 rfl) ?_
  refine lv_iload_n hx hb dJ1_charAt_3b067_7 rfl (lv_at hl 1 rfl) ?_
  refine va_tb (v := .int ((sb_L.getD k []).getD i.toNatClampNeg 0)) hx hb (hE.1.1 k hk).2.2.2 hS hi rfl dJ1_charAt_3b067_8 ?_
  refine lv_sipush (v := 255) hx hb dJ1_charAt_3b067_9 (by decide) ?_
  refine lv_iand hx hb dJ1_charAt_3b067_12 ?_
  refine lv_i2c (v := sy_n k i.toNatClampNeg) hx hb dJ1_charAt_3b067_13 rfl ?_
  exact W.zret (v := sy_n k i.toNatClampNeg) hx hb hr (sy_nar k hk _ (by omega)) (fun tt ht hW => ⟨⟨sy_n k i.toNatClampNeg, (), rfl, rfl, by rw [ht]; exact hP, kk_warm hW hK, hD⟩, hS.F ht⟩) hS.2.2 dJ1_charAt_3b067_14
abbrev rm_J0_length : Room := { frames := 1, cells := 0, slots := 0, locals := 20 }
theorem c_J0_length (l : Launch) (D : va_G) (cy : Nat → ClassId) (sz : Nat) (X : (Nat → Nat) × (Nat → Nat)) {k : Nat} (hk : k < 6) : cx_i l yJ0_length_8abf5 (.code yJ0_length_8abf5 cJ0_length_8abf5 1 (some .int) :: wg_L) rm_J0_length D cy sz X [] [.ref (X.1 k)] (fun r (_ : Unit) => r = nI (sl_L.getD k 0)) (fun _ => []) := by
  refine Met.ofW (cc := cJ0_length_8abf5) (maxL := 1) (ret := some .int) (by decide) rfl ?_
  intro p e s m args below meth c s₁ B hml hv
  obtain ⟨rfl, hsz, hP, hK, hD0, hE⟩ := hv
  subst hsz
  have hD := hD0.self (sz := s.heap.size)
  have hl := lv_entry ([.ref (X.1 k)]) (n := 1) (Nat.le_of_ble_eq_true rfl)
  rw [lg_entry_eq]
  have hx := B.exec
  have hb := B.bytes
  have hr := B.returns
  have hown := findClass_of_methodNamed B.named
  have hts := atoms_spec (ws := .code yJ0_length_8abf5 cJ0_length_8abf5 1 (some .int) :: wg_L) B.pre
  have hlocks := B.notSynchronized
  have hA : ∀ q, s.heap.size ≤ q → va_A ([] : va_W) s.heap.size q := fun q h => Or.inr h
  have hS : va_S (va_A ([] : va_W) s.heap.size) s.heap s.heap [] := va_S.rf
  refine lv_aload_n hx hb dJ0_length_8abf5_0 rfl (lv_at hl 0 rfl) ?_
  refine vk_getf (own := RJ0) hx hb (hE.1.1 k hk).2.2.1 hS hown (hts _ (List.mem_cons_of_mem _ k_1147)) (fun _ h => h) dJ0_length_8abf5_1 ?_
  refine va_tlen (v := Int32.ofNat (sl_L.getD k 0)) hx hb (hE.1.1 k hk).2.2.2 hS rfl dJ0_length_8abf5_4 ?_
  refine lv_aload_n hx hb dJ0_length_8abf5_5 rfl (lv_at hl 0 rfl) ?_
  have hPc := hP.sub (ws' := []) [] rfl
  have hDc := hD.sub (ws' := []) [] (by decide) rfl
  have hEc := sx_nar (sx_kept hE hS.2.1) (va_free (wc := []) hD hS hA [] rfl)
  refine cl_i (fun (_ : Unit) => []) (va_runV (As := []) (rest := [.int (Int32.ofNat (sl_L.getD k 0))]) (C := RJ0) ⟨hx, hb, hml, hown, hts⟩ (c_J0_coder l D cy s.heap.size X hk) ⟨callB_of 0 hts (wg_in k_299) rfl rfl rfl (hts _ (List.mem_cons_of_mem _ k_9)) (hts _ (List.mem_cons_of_mem _ k_296)) (by decide +kernel) ⟨by decide, by decide⟩, (hts _ (List.mem_cons_of_mem _ k_297)), (hts _ (List.mem_cons_of_mem _ k_298))⟩ ⟨sx_blind, vk_recv hE.1 hk hS, fun U hU hW => sx_pre hK hPc hDc hEc hU hW⟩ rfl rfl hl.1 rfl (lv_room (Nat.le_of_ble_eq_true rfl)) dJ0_length_8abf5_6 ⟨by decide, by decide⟩) hP hD hS hA [] [] [] rfl rfl (by decide) (by decide) (by decide) (fun _ => rfl) (fun r u H locs hw hP hD hS => ?_)
  obtain rfl := hw.symm
  refine lv_ishr hx hb dJ0_length_8abf5_9 ?_
  exact W.iret (v := (Int32.ofNat (sl_L.getD k 0) >>> ((0 : Int32) &&& 31))) hx hb hr (fun tt ht hW => ⟨⟨(Int32.ofNat (sl_L.getD k 0) >>> ((0 : Int32) &&& 31)), (), rfl, (sl_6 k hk).2, by rw [ht]; exact hP, kk_warm hW hK, hD⟩, hS.F ht⟩) hS.2.2 dJ0_length_8abf5_10
abbrev rm_J0_charAt : Room := { frames := 3, cells := 0, slots := 0, locals := 64 }
theorem c_J0_charAt (l : Launch) (D : va_G) (cy : Nat → ClassId) (sz : Nat) (X : (Nat → Nat) × (Nat → Nat)) {k : Nat} {i : Int32} (hk : k < 6) (hi : vp_in i (sl_L.getD k 0)) : cx_i l yJ0_charAt_5068e (.code yJ0_charAt_5068e cJ0_charAt_5068e 2 (some .char) :: wg_L) rm_J0_charAt D cy sz X [] [.ref (X.1 k), .int i] (fun r (_ : Unit) => r = sy_n k i.toNatClampNeg) (fun _ => []) := by
  have hs6 := (sl_6 k hk).1
  obtain ⟨h0, h1, h2⟩ := vp_0 (by omega) hi
  refine Met.ofW (cc := cJ0_charAt_5068e) (maxL := 2) (ret := some .char) (by decide) rfl ?_
  intro p e s m args below meth c s₁ B hml hv
  obtain ⟨rfl, hsz, hP, hK, hD0, hE⟩ := hv
  subst hsz
  have hD := hD0.self (sz := s.heap.size)
  have hl := lv_entry ([.ref (X.1 k), .int i]) (n := 2) (Nat.le_of_ble_eq_true rfl)
  rw [lg_entry_eq]
  have hx := B.exec
  have hb := B.bytes
  have hr := B.returns
  have hown := findClass_of_methodNamed B.named
  have hts := atoms_spec (ws := .code yJ0_charAt_5068e cJ0_charAt_5068e 2 (some .char) :: wg_L) B.pre
  have hlocks := B.notSynchronized
  have hA : ∀ q, s.heap.size ≤ q → va_A ([] : va_W) s.heap.size q := fun q h => Or.inr h
  have hS : va_S (va_A ([] : va_W) s.heap.size) s.heap s.heap [] := va_S.rf
  refine lv_aload_n hx hb dJ0_charAt_5068e_0 rfl (lv_at hl 0 rfl) ?_
  have hPc := hP.sub (ws' := []) [] rfl
  have hDc := hD.sub (ws' := []) [] (by decide) rfl
  have hEc := sx_nar (sx_kept hE hS.2.1) (va_free (wc := []) hD hS hA [] rfl)
  refine cl_i (fun (_ : Unit) => []) (va_runV (As := []) (rest := []) (C := RJ0) ⟨hx, hb, hml, hown, hts⟩ (c_J0_isLatin1 l D cy s.heap.size X hk) ⟨callB_of 0 hts (wg_in k_309) rfl rfl rfl (hts _ (List.mem_cons_of_mem _ k_9)) (hts _ (List.mem_cons_of_mem _ k_306)) (by decide +kernel) ⟨by decide, by decide⟩, (hts _ (List.mem_cons_of_mem _ k_307)), (hts _ (List.mem_cons_of_mem _ k_308))⟩ ⟨sx_blind, vk_recv hE.1 hk hS, fun U hU hW => sx_pre hK hPc hDc hEc hU hW⟩ rfl rfl hl.1 rfl (lv_room (Nat.le_of_ble_eq_true rfl)) dJ0_charAt_5068e_1 ⟨by decide, by decide⟩) hP hD hS hA [] [] [] rfl rfl (by decide) (by decide) (by decide) (fun _ => rfl) (fun r u H locs hw hP hD hS => ?_)
  obtain rfl := hw.symm
  refine lv_if_eq (tgt := 16) hx hb dJ0_charAt_5068e_4 (by decide) (fun z => absurd z (by decide)) (fun _ => ?_)
  refine lv_aload_n hx hb dJ0_charAt_5068e_7 rfl (lv_at hl 0 rfl) ?_
  refine vk_getf (own := RJ0) hx hb (hE.1.1 k hk).2.2.1 hS hown (hts _ (List.mem_cons_of_mem _ k_1147)) (fun _ h => h) dJ0_charAt_5068e_8 ?_
  refine lv_iload_n hx hb dJ0_charAt_5068e_11 rfl (lv_at hl 1 rfl) ?_
  have hPc := hP.sub (ws' := []) [] rfl
  have hDc := hD.sub (ws' := []) [] (by decide) rfl
  have hEc := sx_nar (sx_kept hE hS.2.1) (va_free (wc := []) hD hS hA [] rfl)
  refine cl_i (fun (_ : Unit) => []) (va_runS (As := [.ref (X.2 k), .int i]) (rest := []) ⟨hx, hb, hml, hown, hts⟩ (c_J1_charAt l D cy H.size X hk hi) ⟨callB_of 2 hts (wg_in k_312) rfl rfl rfl (hts _ (List.mem_cons_of_mem _ k_10)) (hts _ (List.mem_cons_of_mem _ k_310)) (by decide +kernel) ⟨by decide, by decide⟩, (hts _ (List.mem_cons_of_mem _ k_311))⟩ ⟨sx_blind, fun U hU hW => sx_pre hK hPc hDc hEc hU hW⟩ rfl rfl hl.1 rfl (lv_room (Nat.le_of_ble_eq_true rfl)) dJ0_charAt_5068e_12 ⟨by decide, by decide⟩) hP hD hS hA [] [] [] rfl rfl (by decide) (by decide) (by decide) (fun _ => rfl) (fun r u H locs hw hP hD hS => ?_)
  obtain rfl := hw.symm
  exact W.zret (v := sy_n k i.toNatClampNeg) hx hb hr (sy_nar k hk _ (by omega)) (fun tt ht hW => ⟨⟨sy_n k i.toNatClampNeg, (), rfl, rfl, by rw [ht]; exact hP, kk_warm hW hK, hD⟩, hS.F ht⟩) hS.2.2 dJ0_charAt_5068e_15
def gs_k {α : Type} (k : Nat) (E : Option α) : Option α := if k < 6 then E else none
theorem gs_d {α : Type} {k : Nat} {E : Option α} {r : α} (h : gs_k k E = some r) : k < 6 ∧ E = some r := by
  unfold gs_k at h
  by_cases c : k < 6
  · rw [if_pos c] at h; exact ⟨c, h⟩
  · rw [if_neg c] at h; cases h
theorem gs_o {α : Type} {k : Nat} (E : Option α) (h : k < 6) : gs_k k E = E := if_pos h
