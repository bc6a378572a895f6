/-! the class's six words: String constants, as every contract that reads them knows them -/
def sl_L : List Nat := [5, 5, 5, 5, 6, 4]
def sb_L : List (List Int32) := [[112, 108, 97, 105, 110], [115, 116, 111, 117, 116], [99, 104, 105, 108, 100], [119, 105, 100, 111, 119], [98, 97, 114, 114, 111, 119], [114, 111, 116, 97]]
def sx_R (X : (Nat → Nat) × (Nat → Nat)) (U : State) : Prop := vk_R RX1 86 "plain" (X.1 0) U ∧ vk_R RX1 92 "stout" (X.1 1) U ∧ vk_R RX1 94 "child" (X.1 2) U ∧ vk_R RX1 96 "widow" (X.1 3) U ∧ vk_R RX1 98 "barrow" (X.1 4) U ∧ vk_R RX1 100 "rota" (X.1 5) U
def sx_E (X : (Nat → Nat) × (Nat → Nat)) (A : Nat → Prop) (U : State) (H : Heap) : Prop := vk_S 6 sl_L sb_L X.1 X.2 A U H ∧ va_Z "java/lang/String" "COMPACT_STRINGS" "Z" (.int 1) A U H ∧ va_Zq "jdk/internal/util/Preconditions" "SIOOBE_FORMATTER" "Ljava/util/function/BiFunction;" A U H ∧ sx_R X U
theorem sx_R.same {X : (Nat → Nat) × (Nat → Nat)} {u U : State} (hv : U.vm = u.vm) (h : sx_R X u) : sx_R X U := ⟨h.1.same hv, h.2.1.same hv, h.2.2.1.same hv, h.2.2.2.1.same hv, h.2.2.2.2.1.same hv, h.2.2.2.2.2.same hv⟩
theorem sx_R.warm {X : (Nat → Nat) × (Nat → Nat)} {s U : State} (hW : s.WarmedH U.vm) (h : sx_R X s) : sx_R X U := ⟨h.1.warm hW, h.2.1.warm hW, h.2.2.1.warm hW, h.2.2.2.1.warm hW, h.2.2.2.2.1.warm hW, h.2.2.2.2.2.warm hW⟩
theorem sx_warm {X : (Nat → Nat) × (Nat → Nat)} {A : Nat → Prop} {s U : State} {H : Heap} (hW : s.WarmedH U.vm) (h : sx_E X A s H) : sx_E X A U H := ⟨h.1.moved hW.alike, h.2.1.moved hW.alike, h.2.2.1.moved hW.alike, h.2.2.2.warm hW⟩
theorem sx_call {X : (Nat → Nat) × (Nat → Nat)} {A : Nat → Prop} {U : State} {g : JFrame} {mk : MethodId} {a : Array Value} {H : Heap} (h : sx_E X A U H) : sx_E X A (U.calling g mk a) H := ⟨h.1.moved (U := U.calling g mk a) (Vm.Alike.refl U.vm), h.2.1.moved (U := U.calling g mk a) (Vm.Alike.refl U.vm), h.2.2.1.moved (U := U.calling g mk a) (Vm.Alike.refl U.vm), h.2.2.2.same rfl⟩
theorem sx_kept {X : (Nat → Nat) × (Nat → Nat)} {A : Nat → Prop} {U : State} {H H1 : Heap} (h : sx_E X A U H) (hq : ∀ a : Nat, a < H.size → ¬ A a → H1[a]? = H[a]?) : sx_E X A U H1 := ⟨h.1.kept hq, h.2.1.kept hq, h.2.2.1.kept hq, h.2.2.2⟩
theorem sx_nar {X : (Nat → Nat) × (Nat → Nat)} {A B : Nat → Prop} {U : State} {H : Heap} (h : sx_E X A U H) (hAB : ∀ q, B q → A q) : sx_E X B U H := ⟨h.1.narrow hAB, h.2.1.narrow hAB, h.2.2.1.narrow hAB, h.2.2.2⟩
/-- a contract's start, with the words -/
def sx_P (D : va_G) (cy : Nat → ClassId) (sz : Nat) (X : (Nat → Nat) × (Nat → Nat)) (ws : va_W) (vals : List Value) : Array Value → State → Prop := va_Pc vals (fun U => U.heap.size = sz ∧ va_P D vwCl ws U.heap ∧ kk_K D cy U ∧ va_D (fun _ => True) ws ∧ sx_E X (va_A ws sz) U U.heap)
theorem sx_blind {D : va_G} {cy : Nat → ClassId} {sz : Nat} {X : (Nat → Nat) × (Nat → Nat)} {ws : va_W} {vals : List Value} : FrameBlind (sx_P D cy sz X ws vals) := by
  intro a U g mk q
  obtain ⟨q0, q1, qP, qK, qD, qE⟩ := q
  exact ⟨q0, q1, qP, kk_call qK, qD, sx_call qE⟩
theorem sx_pre {D : va_G} {cy : Nat → ClassId} {A : Nat → Prop} {X : (Nat → Nat) × (Nat → Nat)} {ws : va_W} {vals : List Value} {s U : State} {H : Heap} (hK : kk_K D cy s) (hP : va_P D vwCl ws H) (hD : va_D A ws) (hE : sx_E X (va_A ws H.size) s H) (hU : U.heap = H) (hW : s.WarmedH U.vm) : sx_P D cy H.size X ws vals vals.toArray U := by
  subst hU
  exact ⟨rfl, rfl, hP, kk_warm hW hK, hD.weaken (fun _ _ _ _ => trivial), sx_warm hW hE⟩
def cx_i (l : Launch) (y : MethodName) (wy : List Cond) (rm : Room) (D : va_G) (cy : Nat → ClassId) (sz : Nat) (X : (Nat → Nat) × (Nat → Nat)) (wc : va_W) (vals : List Value) {S : Type} (post : Int32 → S → Prop) (w1 : S → va_W) : Prop :=
  Met l y wy rm (sx_P D cy sz X wc vals) (va_Qi post (fun u t => st_B D cy (va_A wc sz) (w1 u) t) (va_A wc sz)) 0 0 (va_A wc sz)
def cx_v (l : Launch) (y : MethodName) (wy : List Cond) (rm : Room) (D : va_G) (cy : Nat → ClassId) (sz : Nat) (X : (Nat → Nat) × (Nat → Nat)) (wc : va_W) (vals : List Value) {S : Type} (post : S → Prop) (w1 : S → va_W) : Prop :=
  Met l y wy rm (sx_P D cy sz X wc vals) (va_Qv post (fun u t => st_B D cy (va_A wc sz) (w1 u) t) (va_A wc sz)) 0 0 (va_A wc sz)
/-- String.coder() -/
abbrev rm_J0_coder : Room := { frames := 0, cells := 0, slots := 0, locals := 0 }
theorem c_J0_coder (l : Launch) (D : va_G) (cy : Nat → ClassId) (sz : Nat) (X : (Nat → Nat) × (Nat → Nat)) {k : Nat} (hk : k < 6) : cx_i l yJ0_coder_7d493 (.code yJ0_coder_7d493 cJ0_coder_7d493 1 (some .byte) :: wg_L) rm_J0_coder D cy sz X [] [.ref (X.1 k)] (fun r (_ : Unit) => r = 0) (fun _ => []) := by
  refine Met.ofW (cc := cJ0_coder_7d493) (maxL := 1) (ret := some .byte) (by decide) rfl ?_
  intro p e s m args below meth c s₁ B hml hv
  obtain ⟨rfl, hsz, hP, hK, hD0, hE⟩ := hv
  subst hsz
  have hD := hD0.self (sz := s.heap.size)
  have hl := lv_entry ([.ref (X.1 k)]) (n := 1) (Nat.le_of_ble_eq_true rfl)
  rw [lg_entry_eq]
  have hx := B.exec
  have hb := B.bytes
  have hr := B.returns
  have hown := findClass_of_methodNamed B.named
  have hts := atoms_spec (ws := .code yJ0_coder_7d493 cJ0_coder_7d493 1 (some .byte) :: wg_L) B.pre
  have hlocks := B.notSynchronized
  refine va_gets (own := RJ0) hx hb hE.2.1 va_S.rf hown (hts _ (List.mem_cons_of_mem _ k_300)) (fun _ h => h) dJ0_coder_7d493_0 ?_
  refine lv_if_eq (tgt := 13) hx hb dJ0_coder_7d493_3 (by decide) (fun z => absurd z (by decide)) (fun _ => ?_)
  refine lv_aload_n hx hb dJ0_coder_7d493_6 rfl (lv_at hl 0 rfl) ?_
  refine vk_getf (own := RJ0) hx hb (hE.1.1 k hk).2.1 va_S.rf hown (hts _ (List.mem_cons_of_mem _ k_1148)) (fun _ h => h) dJ0_coder_7d493_7 ?_
  refine lv_goto (tgt := 14) hx hb dJ0_coder_7d493_10 (by decide) ?_
  exact W.zret (v := 0) hx hb hr (by decide) (fun tt ht hW => ⟨⟨0, (), rfl, rfl, by rw [ht]; exact hP, kk_warm hW hK, hD⟩, va_S.rf.F ht⟩) (fun _ h => by cases h) dJ0_coder_7d493_14
/-- String.isLatin1() -/
theorem c_J0_isLatin1 (l : Launch) (D : va_G) (cy : Nat → ClassId) (sz : Nat) (X : (Nat → Nat) × (Nat → Nat)) {k : Nat} (hk : k < 6) : cx_i l yJ0_isLatin1_aae02 (.code yJ0_isLatin1_aae02 cJ0_isLatin1_aae02 1 (some .boolean) :: wg_L) rm_J0_coder D cy sz X [] [.ref (X.1 k)] (fun r (_ : Unit) => r = 1) (fun _ => []) := by
  refine Met.ofW (cc := cJ0_isLatin1_aae02) (maxL := 1) (ret := some .boolean) (by decide) rfl ?_
  intro p e s m args below meth c s₁ B hml hv
  obtain ⟨rfl, hsz, hP, hK, hD0, hE⟩ := hv
  subst hsz
  have hD := hD0.self (sz := s.heap.size)
  have hl := lv_entry ([.ref (X.1 k)]) (n := 1) (Nat.le_of_ble_eq_true rfl)
  rw [lg_entry_eq]
  have hx := B.exec
  have hb := B.bytes
  have hr := B.returns
  have hown := findClass_of_methodNamed B.named
  have hts := atoms_spec (ws := .code yJ0_isLatin1_aae02 cJ0_isLatin1_aae02 1 (some .boolean) :: wg_L) B.pre
  have hlocks := B.notSynchronized
  refine va_gets (own := RJ0) hx hb hE.2.1 va_S.rf hown (hts _ (List.mem_cons_of_mem _ k_300)) (fun _ h => h) dJ0_isLatin1_aae02_0 ?_
  refine lv_if_eq (tgt := 17) hx hb dJ0_isLatin1_aae02_3 (by decide) (fun z => absurd z (by decide)) (fun _ => ?_)
  refine lv_aload_n hx hb dJ0_isLatin1_aae02_6 rfl (lv_at hl 0 rfl) ?_
  refine vk_getf (own := RJ0) hx hb (hE.1.1 k hk).2.1 va_S.rf hown (hts _ (List.mem_cons_of_mem _ k_1148)) (fun _ h => h) dJ0_isLatin1_aae02_7 ?_
  refine lv_if_ne (tgt := 17) hx hb dJ0_isLatin1_aae02_10 (by decide) (fun z => absurd rfl z) (fun _ => ?_)
  refine lv_iconst (v := 1) hx hb dJ0_isLatin1_aae02_13 (by decide) ?_
  refine lv_goto (tgt := 18) hx hb dJ0_isLatin1_aae02_14 (by decide) ?_
  exact W.zret (v := 1) hx hb hr (by decide) (fun tt ht hW => ⟨⟨1, (), rfl, rfl, by rw [ht]; exact hP, kk_warm hW hK, hD⟩, va_S.rf.F ht⟩) (fun _ h => by cases h) dJ0_isLatin1_aae02_18
