/-! what the law finds at its entry: the classes, the words -/
theorem tb_m {w : Cond} (i : Nat) (h : tables_1[i]? = some w) : w ∈ lw_tbl := List.mem_append_right _ (List.mem_of_getElem? h)
def tm_S (i : Nat) : Term := .string "BarrowGrief$Reader" ([86, 92, 94, 96, 98, 100].getD i 0)
set_option maxRecDepth 100000 in
theorem ws_E {s : State} {b : Nat} (hts : ∀ w ∈ lw_tbl, w.before #[Value.ref b] s = true) (hgv : (Jvm.Cond.and given_1 narrow_1).before #[Value.ref b] s = true) : ∃ X : (Nat → Nat) × (Nat → Nat), sx_E X (fun q : Nat => s.heap.size ≤ q) s s.heap := by
  have htw := lx_h hts
  have hs := flat_of_before _ hgv
  have hA : ∀ a : Nat, a < s.heap.size → ¬ (fun q : Nat => s.heap.size ≤ q) a := fun a h => Nat.not_le.mpr h
  have f1 : ∀ i : Nat, i < 6 → (Cond.exactly (tm_S i) "java/lang/String").before #[Value.ref b] s = true := by
    intro i hi
    rcases (show i = 0 ∨ i = 1 ∨ i = 2 ∨ i = 3 ∨ i = 4 ∨ i = 5 by omega) with rfl | rfl | rfl | rfl | rfl | rfl
    · exact (show (Cond.exactly (.string "BarrowGrief$Reader" 86) "java/lang/String").before #[Value.ref b] s = true from hs _ (by decide +kernel))
    · exact (show (Cond.exactly (.string "BarrowGrief$Reader" 92) "java/lang/String").before #[Value.ref b] s = true from hs _ (by decide +kernel))
    · exact (show (Cond.exactly (.string "BarrowGrief$Reader" 94) "java/lang/String").before #[Value.ref b] s = true from hs _ (by decide +kernel))
    · exact (show (Cond.exactly (.string "BarrowGrief$Reader" 96) "java/lang/String").before #[Value.ref b] s = true from hs _ (by decide +kernel))
    · exact (show (Cond.exactly (.string "BarrowGrief$Reader" 98) "java/lang/String").before #[Value.ref b] s = true from hs _ (by decide +kernel))
    · exact (show (Cond.exactly (.string "BarrowGrief$Reader" 100) "java/lang/String").before #[Value.ref b] s = true from hs _ (by decide +kernel))
  have f2 : ∀ i : Nat, i < 6 → (Cond.eq (.field (tm_S i) "java/lang/String" "coder" "B") (.int 0)).before #[Value.ref b] s = true := by
    intro i hi
    rcases (show i = 0 ∨ i = 1 ∨ i = 2 ∨ i = 3 ∨ i = 4 ∨ i = 5 by omega) with rfl | rfl | rfl | rfl | rfl | rfl
    · exact (show (Cond.eq (.field (.string "BarrowGrief$Reader" 86) "java/lang/String" "coder" "B") (.int 0)).before #[Value.ref b] s = true from hs _ (by decide +kernel))
    · exact (show (Cond.eq (.field (.string "BarrowGrief$Reader" 92) "java/lang/String" "coder" "B") (.int 0)).before #[Value.ref b] s = true from hs _ (by decide +kernel))
    · exact (show (Cond.eq (.field (.string "BarrowGrief$Reader" 94) "java/lang/String" "coder" "B") (.int 0)).before #[Value.ref b] s = true from hs _ (by decide +kernel))
    · exact (show (Cond.eq (.field (.string "BarrowGrief$Reader" 96) "java/lang/String" "coder" "B") (.int 0)).before #[Value.ref b] s = true from hs _ (by decide +kernel))
    · exact (show (Cond.eq (.field (.string "BarrowGrief$Reader" 98) "java/lang/String" "coder" "B") (.int 0)).before #[Value.ref b] s = true from hs _ (by decide +kernel))
    · exact (show (Cond.eq (.field (.string "BarrowGrief$Reader" 100) "java/lang/String" "coder" "B") (.int 0)).before #[Value.ref b] s = true from hs _ (by decide +kernel))
  have f3 : ∀ i : Nat, i < 6 → (Cond.arrayOf (.field (tm_S i) "java/lang/String" "value" "[B") .byte).before #[Value.ref b] s = true := by
    intro i hi
    rcases (show i = 0 ∨ i = 1 ∨ i = 2 ∨ i = 3 ∨ i = 4 ∨ i = 5 by omega) with rfl | rfl | rfl | rfl | rfl | rfl
    · exact (show (Cond.arrayOf (.field (.string "BarrowGrief$Reader" 86) "java/lang/String" "value" "[B") .byte).before #[Value.ref b] s = true from hs _ (by decide +kernel))
    · exact (show (Cond.arrayOf (.field (.string "BarrowGrief$Reader" 92) "java/lang/String" "value" "[B") .byte).before #[Value.ref b] s = true from hs _ (by decide +kernel))
    · exact (show (Cond.arrayOf (.field (.string "BarrowGrief$Reader" 94) "java/lang/String" "value" "[B") .byte).before #[Value.ref b] s = true from hs _ (by decide +kernel))
    · exact (show (Cond.arrayOf (.field (.string "BarrowGrief$Reader" 96) "java/lang/String" "value" "[B") .byte).before #[Value.ref b] s = true from hs _ (by decide +kernel))
    · exact (show (Cond.arrayOf (.field (.string "BarrowGrief$Reader" 98) "java/lang/String" "value" "[B") .byte).before #[Value.ref b] s = true from hs _ (by decide +kernel))
    · exact (show (Cond.arrayOf (.field (.string "BarrowGrief$Reader" 100) "java/lang/String" "value" "[B") .byte).before #[Value.ref b] s = true from hs _ (by decide +kernel))
  have f4 : ∀ i : Nat, i < 6 → (Cond.eq (.length (.field (tm_S i) "java/lang/String" "value" "[B")) (.int (Int32.ofNat (sl_L.getD i 0)))).before #[Value.ref b] s = true := by
    intro i hi
    rcases (show i = 0 ∨ i = 1 ∨ i = 2 ∨ i = 3 ∨ i = 4 ∨ i = 5 by omega) with rfl | rfl | rfl | rfl | rfl | rfl
    · exact (show (Cond.eq (.length (.field (.string "BarrowGrief$Reader" 86) "java/lang/String" "value" "[B")) (.int 5)).before #[Value.ref b] s = true from hs _ (by decide +kernel))
    · exact (show (Cond.eq (.length (.field (.string "BarrowGrief$Reader" 92) "java/lang/String" "value" "[B")) (.int 5)).before #[Value.ref b] s = true from hs _ (by decide +kernel))
    · exact (show (Cond.eq (.length (.field (.string "BarrowGrief$Reader" 94) "java/lang/String" "value" "[B")) (.int 5)).before #[Value.ref b] s = true from hs _ (by decide +kernel))
    · exact (show (Cond.eq (.length (.field (.string "BarrowGrief$Reader" 96) "java/lang/String" "value" "[B")) (.int 5)).before #[Value.ref b] s = true from hs _ (by decide +kernel))
    · exact (show (Cond.eq (.length (.field (.string "BarrowGrief$Reader" 98) "java/lang/String" "value" "[B")) (.int 6)).before #[Value.ref b] s = true from hs _ (by decide +kernel))
    · exact (show (Cond.eq (.length (.field (.string "BarrowGrief$Reader" 100) "java/lang/String" "value" "[B")) (.int 4)).before #[Value.ref b] s = true from hs _ (by decide +kernel))
  have f5 : ∀ i : Nat, i < 6 → ∀ j : Nat, j < sl_L.getD i 0 → (Cond.eq (.elem (.field (tm_S i) "java/lang/String" "value" "[B") (.int (Int32.ofNat j))) (.int ((sb_L.getD i []).getD j 0))).before #[Value.ref b] s = true := by
    intro i hi
    rcases (show i = 0 ∨ i = 1 ∨ i = 2 ∨ i = 3 ∨ i = 4 ∨ i = 5 by omega) with rfl | rfl | rfl | rfl | rfl | rfl
    · intro j hj
      have hj : j < 5 := hj
      rcases (show j = 0 ∨ j = 1 ∨ j = 2 ∨ j = 3 ∨ j = 4 by omega) with rfl | rfl | rfl | rfl | rfl
      · exact (show (Cond.eq (.elem (.field (.string "BarrowGrief$Reader" 86) "java/lang/String" "value" "[B") (.int 0)) (.int 112)).before #[Value.ref b] s = true from hs _ (by decide +kernel))
      · exact (show (Cond.eq (.elem (.field (.string "BarrowGrief$Reader" 86) "java/lang/String" "value" "[B") (.int 1)) (.int 108)).before #[Value.ref b] s = true from hs _ (by decide +kernel))
      · exact (show (Cond.eq (.elem (.field (.string "BarrowGrief$Reader" 86) "java/lang/String" "value" "[B") (.int 2)) (.int 97)).before #[Value.ref b] s = true from hs _ (by decide +kernel))
      · exact (show (Cond.eq (.elem (.field (.string "BarrowGrief$Reader" 86) "java/lang/String" "value" "[B") (.int 3)) (.int 105)).before #[Value.ref b] s = true from hs _ (by decide +kernel))
      · exact (show (Cond.eq (.elem (.field (.string "BarrowGrief$Reader" 86) "java/lang/String" "value" "[B") (.int 4)) (.int 110)).before #[Value.ref b] s = true from hs _ (by decide +kernel))
    · intro j hj
      have hj : j < 5 := hj
      rcases (show j = 0 ∨ j = 1 ∨ j = 2 ∨ j = 3 ∨ j = 4 by omega) with rfl | rfl | rfl | rfl | rfl
      · exact (show (Cond.eq (.elem (.field (.string "BarrowGrief$Reader" 92) "java/lang/String" "value" "[B") (.int 0)) (.int 115)).before #[Value.ref b] s = true from hs _ (by decide +kernel))
      · exact (show (Cond.eq (.elem (.field (.string "BarrowGrief$Reader" 92) "java/lang/String" "value" "[B") (.int 1)) (.int 116)).before #[Value.ref b] s = true from hs _ (by decide +kernel))
      · exact (show (Cond.eq (.elem (.field (.string "BarrowGrief$Reader" 92) "java/lang/String" "value" "[B") (.int 2)) (.int 111)).before #[Value.ref b] s = true from hs _ (by decide +kernel))
      · exact (show (Cond.eq (.elem (.field (.string "BarrowGrief$Reader" 92) "java/lang/String" "value" "[B") (.int 3)) (.int 117)).before #[Value.ref b] s = true from hs _ (by decide +kernel))
      · exact (show (Cond.eq (.elem (.field (.string "BarrowGrief$Reader" 92) "java/lang/String" "value" "[B") (.int 4)) (.int 116)).before #[Value.ref b] s = true from hs _ (by decide +kernel))
    · intro j hj
      have hj : j < 5 := hj
      rcases (show j = 0 ∨ j = 1 ∨ j = 2 ∨ j = 3 ∨ j = 4 by omega) with rfl | rfl | rfl | rfl | rfl
      · exact (show (Cond.eq (.elem (.field (.string "BarrowGrief$Reader" 94) "java/lang/String" "value" "[B") (.int 0)) (.int 99)).before #[Value.ref b] s = true from hs _ (by decide +kernel))
      · exact (show (Cond.eq (.elem (.field (.string "BarrowGrief$Reader" 94) "java/lang/String" "value" "[B") (.int 1)) (.int 104)).before #[Value.ref b] s = true from hs _ (by decide +kernel))
      · exact (show (Cond.eq (.elem (.field (.string "BarrowGrief$Reader" 94) "java/lang/String" "value" "[B") (.int 2)) (.int 105)).before #[Value.ref b] s = true from hs _ (by decide +kernel))
      · exact (show (Cond.eq (.elem (.field (.string "BarrowGrief$Reader" 94) "java/lang/String" "value" "[B") (.int 3)) (.int 108)).before #[Value.ref b] s = true from hs _ (by decide +kernel))
      · exact (show (Cond.eq (.elem (.field (.string "BarrowGrief$Reader" 94) "java/lang/String" "value" "[B") (.int 4)) (.int 100)).before #[Value.ref b] s = true from hs _ (by decide +kernel))
    · intro j hj
      have hj : j < 5 := hj
      rcases (show j = 0 ∨ j = 1 ∨ j = 2 ∨ j = 3 ∨ j = 4 by omega) with rfl | rfl | rfl | rfl | rfl
      · exact (show (Cond.eq (.elem (.field (.string "BarrowGrief$Reader" 96) "java/lang/String" "value" "[B") (.int 0)) (.int 119)).before #[Value.ref b] s = true from hs _ (by decide +kernel))
      · exact (show (Cond.eq (.elem (.field (.string "BarrowGrief$Reader" 96) "java/lang/String" "value" "[B") (.int 1)) (.int 105)).before #[Value.ref b] s = true from hs _ (by decide +kernel))
      · exact (show (Cond.eq (.elem (.field (.string "BarrowGrief$Reader" 96) "java/lang/String" "value" "[B") (.int 2)) (.int 100)).before #[Value.ref b] s = true from hs _ (by decide +kernel))
      · exact (show (Cond.eq (.elem (.field (.string "BarrowGrief$Reader" 96) "java/lang/String" "value" "[B") (.int 3)) (.int 111)).before #[Value.ref b] s = true from hs _ (by decide +kernel))
      · exact (show (Cond.eq (.elem (.field (.string "BarrowGrief$Reader" 96) "java/lang/String" "value" "[B") (.int 4)) (.int 119)).before #[Value.ref b] s = true from hs _ (by decide +kernel))
    · intro j hj
      have hj : j < 6 := hj
      rcases (show j = 0 ∨ j = 1 ∨ j = 2 ∨ j = 3 ∨ j = 4 ∨ j = 5 by omega) with rfl | rfl | rfl | rfl | rfl | rfl
      · exact (show (Cond.eq (.elem (.field (.string "BarrowGrief$Reader" 98) "java/lang/String" "value" "[B") (.int 0)) (.int 98)).before #[Value.ref b] s = true from hs _ (by decide +kernel))
      · exact (show (Cond.eq (.elem (.field (.string "BarrowGrief$Reader" 98) "java/lang/String" "value" "[B") (.int 1)) (.int 97)).before #[Value.ref b] s = true from hs _ (by decide +kernel))
      · exact (show (Cond.eq (.elem (.field (.string "BarrowGrief$Reader" 98) "java/lang/String" "value" "[B") (.int 2)) (.int 114)).before #[Value.ref b] s = true from hs _ (by decide +kernel))
      · exact (show (Cond.eq (.elem (.field (.string "BarrowGrief$Reader" 98) "java/lang/String" "value" "[B") (.int 3)) (.int 114)).before #[Value.ref b] s = true from hs _ (by decide +kernel))
      · exact (show (Cond.eq (.elem (.field (.string "BarrowGrief$Reader" 98) "java/lang/String" "value" "[B") (.int 4)) (.int 111)).before #[Value.ref b] s = true from hs _ (by decide +kernel))
      · exact (show (Cond.eq (.elem (.field (.string "BarrowGrief$Reader" 98) "java/lang/String" "value" "[B") (.int 5)) (.int 119)).before #[Value.ref b] s = true from hs _ (by decide +kernel))
    · intro j hj
      have hj : j < 4 := hj
      rcases (show j = 0 ∨ j = 1 ∨ j = 2 ∨ j = 3 by omega) with rfl | rfl | rfl | rfl
      · exact (show (Cond.eq (.elem (.field (.string "BarrowGrief$Reader" 100) "java/lang/String" "value" "[B") (.int 0)) (.int 114)).before #[Value.ref b] s = true from hs _ (by decide +kernel))
      · exact (show (Cond.eq (.elem (.field (.string "BarrowGrief$Reader" 100) "java/lang/String" "value" "[B") (.int 1)) (.int 111)).before #[Value.ref b] s = true from hs _ (by decide +kernel))
      · exact (show (Cond.eq (.elem (.field (.string "BarrowGrief$Reader" 100) "java/lang/String" "value" "[B") (.int 2)) (.int 116)).before #[Value.ref b] s = true from hs _ (by decide +kernel))
      · exact (show (Cond.eq (.elem (.field (.string "BarrowGrief$Reader" 100) "java/lang/String" "value" "[B") (.int 3)) (.int 97)).before #[Value.ref b] s = true from hs _ (by decide +kernel))
  have f6 : ∀ i j : Nat, i < 6 → j < 6 → i ≠ j → (Cond.not (Cond.eq (tm_S i) (tm_S j))).before #[Value.ref b] s = true ∨ (Cond.not (Cond.eq (tm_S j) (tm_S i))).before #[Value.ref b] s = true := by
    intro i j hi hj hij
    rcases (show i = 0 ∨ i = 1 ∨ i = 2 ∨ i = 3 ∨ i = 4 ∨ i = 5 by omega) with rfl | rfl | rfl | rfl | rfl | rfl
    · rcases (show j = 0 ∨ j = 1 ∨ j = 2 ∨ j = 3 ∨ j = 4 ∨ j = 5 by omega) with rfl | rfl | rfl | rfl | rfl | rfl
      · exact absurd rfl hij
      · exact Or.inl (show (Cond.not (Cond.eq (.string "BarrowGrief$Reader" 86) (.string "BarrowGrief$Reader" 92))).before #[Value.ref b] s = true from hs _ (by decide +kernel))
      · exact Or.inl (show (Cond.not (Cond.eq (.string "BarrowGrief$Reader" 86) (.string "BarrowGrief$Reader" 94))).before #[Value.ref b] s = true from hs _ (by decide +kernel))
      · exact Or.inl (show (Cond.not (Cond.eq (.string "BarrowGrief$Reader" 86) (.string "BarrowGrief$Reader" 96))).before #[Value.ref b] s = true from hs _ (by decide +kernel))
      · exact Or.inl (show (Cond.not (Cond.eq (.string "BarrowGrief$Reader" 86) (.string "BarrowGrief$Reader" 98))).before #[Value.ref b] s = true from hs _ (by decide +kernel))
      · exact Or.inl (show (Cond.not (Cond.eq (.string "BarrowGrief$Reader" 86) (.string "BarrowGrief$Reader" 100))).before #[Value.ref b] s = true from hs _ (by decide +kernel))
    · rcases (show j = 0 ∨ j = 1 ∨ j = 2 ∨ j = 3 ∨ j = 4 ∨ j = 5 by omega) with rfl | rfl | rfl | rfl | rfl | rfl
      · exact Or.inr (show (Cond.not (Cond.eq (.string "BarrowGrief$Reader" 86) (.string "BarrowGrief$Reader" 92))).before #[Value.ref b] s = true from hs _ (by decide +kernel))
      · exact absurd rfl hij
      · exact Or.inl (show (Cond.not (Cond.eq (.string "BarrowGrief$Reader" 92) (.string "BarrowGrief$Reader" 94))).before #[Value.ref b] s = true from hs _ (by decide +kernel))
      · exact Or.inl (show (Cond.not (Cond.eq (.string "BarrowGrief$Reader" 92) (.string "BarrowGrief$Reader" 96))).before #[Value.ref b] s = true from hs _ (by decide +kernel))
      · exact Or.inl (show (Cond.not (Cond.eq (.string "BarrowGrief$Reader" 92) (.string "BarrowGrief$Reader" 98))).before #[Value.ref b] s = true from hs _ (by decide +kernel))
      · exact Or.inl (show (Cond.not (Cond.eq (.string "BarrowGrief$Reader" 92) (.string "BarrowGrief$Reader" 100))).before #[Value.ref b] s = true from hs _ (by decide +kernel))
    · rcases (show j = 0 ∨ j = 1 ∨ j = 2 ∨ j = 3 ∨ j = 4 ∨ j = 5 by omega) with rfl | rfl | rfl | rfl | rfl | rfl
      · exact Or.inr (show (Cond.not (Cond.eq (.string "BarrowGrief$Reader" 86) (.string "BarrowGrief$Reader" 94))).before #[Value.ref b] s = true from hs _ (by decide +kernel))
      · exact Or.inr (show (Cond.not (Cond.eq (.string "BarrowGrief$Reader" 92) (.string "BarrowGrief$Reader" 94))).before #[Value.ref b] s = true from hs _ (by decide +kernel))
      · exact absurd rfl hij
      · exact Or.inl (show (Cond.not (Cond.eq (.string "BarrowGrief$Reader" 94) (.string "BarrowGrief$Reader" 96))).before #[Value.ref b] s = true from hs _ (by decide +kernel))
      · exact Or.inl (show (Cond.not (Cond.eq (.string "BarrowGrief$Reader" 94) (.string "BarrowGrief$Reader" 98))).before #[Value.ref b] s = true from hs _ (by decide +kernel))
      · exact Or.inl (show (Cond.not (Cond.eq (.string "BarrowGrief$Reader" 94) (.string "BarrowGrief$Reader" 100))).before #[Value.ref b] s = true from hs _ (by decide +kernel))
    · rcases (show j = 0 ∨ j = 1 ∨ j = 2 ∨ j = 3 ∨ j = 4 ∨ j = 5 by omega) with rfl | rfl | rfl | rfl | rfl | rfl
      · exact Or.inr (show (Cond.not (Cond.eq (.string "BarrowGrief$Reader" 86) (.string "BarrowGrief$Reader" 96))).before #[Value.ref b] s = true from hs _ (by decide +kernel))
      · exact Or.inr (show (Cond.not (Cond.eq (.string "BarrowGrief$Reader" 92) (.string "BarrowGrief$Reader" 96))).before #[Value.ref b] s = true from hs _ (by decide +kernel))
      · exact Or.inr (show (Cond.not (Cond.eq (.string "BarrowGrief$Reader" 94) (.string "BarrowGrief$Reader" 96))).before #[Value.ref b] s = true from hs _ (by decide +kernel))
      · exact absurd rfl hij
      · exact Or.inl (show (Cond.not (Cond.eq (.string "BarrowGrief$Reader" 96) (.string "BarrowGrief$Reader" 98))).before #[Value.ref b] s = true from hs _ (by decide +kernel))
      · exact Or.inl (show (Cond.not (Cond.eq (.string "BarrowGrief$Reader" 96) (.string "BarrowGrief$Reader" 100))).before #[Value.ref b] s = true from hs _ (by decide +kernel))
    · rcases (show j = 0 ∨ j = 1 ∨ j = 2 ∨ j = 3 ∨ j = 4 ∨ j = 5 by omega) with rfl | rfl | rfl | rfl | rfl | rfl
      · exact Or.inr (show (Cond.not (Cond.eq (.string "BarrowGrief$Reader" 86) (.string "BarrowGrief$Reader" 98))).before #[Value.ref b] s = true from hs _ (by decide +kernel))
      · exact Or.inr (show (Cond.not (Cond.eq (.string "BarrowGrief$Reader" 92) (.string "BarrowGrief$Reader" 98))).before #[Value.ref b] s = true from hs _ (by decide +kernel))
      · exact Or.inr (show (Cond.not (Cond.eq (.string "BarrowGrief$Reader" 94) (.string "BarrowGrief$Reader" 98))).before #[Value.ref b] s = true from hs _ (by decide +kernel))
      · exact Or.inr (show (Cond.not (Cond.eq (.string "BarrowGrief$Reader" 96) (.string "BarrowGrief$Reader" 98))).before #[Value.ref b] s = true from hs _ (by decide +kernel))
      · exact absurd rfl hij
      · exact Or.inl (show (Cond.not (Cond.eq (.string "BarrowGrief$Reader" 98) (.string "BarrowGrief$Reader" 100))).before #[Value.ref b] s = true from hs _ (by decide +kernel))
    · rcases (show j = 0 ∨ j = 1 ∨ j = 2 ∨ j = 3 ∨ j = 4 ∨ j = 5 by omega) with rfl | rfl | rfl | rfl | rfl | rfl
      · exact Or.inr (show (Cond.not (Cond.eq (.string "BarrowGrief$Reader" 86) (.string "BarrowGrief$Reader" 100))).before #[Value.ref b] s = true from hs _ (by decide +kernel))
      · exact Or.inr (show (Cond.not (Cond.eq (.string "BarrowGrief$Reader" 92) (.string "BarrowGrief$Reader" 100))).before #[Value.ref b] s = true from hs _ (by decide +kernel))
      · exact Or.inr (show (Cond.not (Cond.eq (.string "BarrowGrief$Reader" 94) (.string "BarrowGrief$Reader" 100))).before #[Value.ref b] s = true from hs _ (by decide +kernel))
      · exact Or.inr (show (Cond.not (Cond.eq (.string "BarrowGrief$Reader" 96) (.string "BarrowGrief$Reader" 100))).before #[Value.ref b] s = true from hs _ (by decide +kernel))
      · exact Or.inr (show (Cond.not (Cond.eq (.string "BarrowGrief$Reader" 98) (.string "BarrowGrief$Reader" 100))).before #[Value.ref b] s = true from hs _ (by decide +kernel))
      · exact absurd rfl hij
  obtain ⟨adK, adV, hS, hT⟩ := vk_Sof (N := 6) (tm := tm_S) (len := sl_L) (byt := sb_L) (A := fun q : Nat => s.heap.size ≤ q) (args := #[Value.ref b]) (s := s) (by decide) f1 f2 f3 f4 f5 f6 hA
  refine ⟨(adK, adV), hS, va_Zof (args := #[Value.ref b]) (hts _ (tb_m 301 (by decide +kernel))) (htw _ k_9) (va_eqt (hs (.eq (.static "java/lang/String" "COMPACT_STRINGS" "Z") (.int 1)) (by decide +kernel))) hA, va_Zqof (args := #[Value.ref b]) (hts _ (tb_m 317 (by decide +kernel))) (htw _ k_11) (hs (.isRef (.static "jdk/internal/util/Preconditions" "SIOOBE_FORMATTER" "Ljava/util/function/BiFunction;")) (by decide +kernel)) hA, vk_R.of (hts (.stringRef RX1 86 "plain") (tb_m 287 (by decide +kernel))) (hT 0 (by decide)), vk_R.of (hts (.stringRef RX1 92 "stout") (tb_m 340 (by decide +kernel))) (hT 1 (by decide)), vk_R.of (hts (.stringRef RX1 94 "child") (tb_m 341 (by decide +kernel))) (hT 2 (by decide)), vk_R.of (hts (.stringRef RX1 96 "widow") (tb_m 342 (by decide +kernel))) (hT 3 (by decide)), vk_R.of (hts (.stringRef RX1 98 "barrow") (tb_m 343 (by decide +kernel))) (hT 4 (by decide)), vk_R.of (hts (.stringRef RX1 100 "rota") (tb_m 344 (by decide +kernel))) (hT 5 (by decide))⟩
set_option maxRecDepth 100000 in
theorem ws_K {s : State} {b : Nat} (hts : ∀ w ∈ lw_tbl, w.before #[Value.ref b] s = true) : ∃ (D : va_G) (cy : Nat → ClassId), kk_K D cy s := by
  have htw := lx_h hts
  obtain ⟨c0, i0, hn0⟩ := u_known (C := RX0) (T := TX0) (N := 3) (n := 3) hts (fun w hw => (List.mem_filter.mp (uw_X0 w hw)).1) (htw _ k_164)
  obtain ⟨c1, i1, hn1⟩ := u_known (C := RX1) (T := TX1) (N := 5) (n := 5) hts (fun w hw => (List.mem_filter.mp (uw_X1 w hw)).1) (htw _ k_142)
  obtain ⟨c2, i2, hn2⟩ := u_known (C := RX2) (T := TX2) (N := 3) (n := 3) hts (fun w hw => (List.mem_filter.mp (uw_X2 w hw)).1) (htw _ k_185)
  obtain ⟨c3, i3, hn3⟩ := u_known (C := RX3) (T := TX3) (N := 4) (n := 4) hts (fun w hw => (List.mem_filter.mp (uw_X3 w hw)).1) (htw _ k_85)
  obtain ⟨c4, i4, hn4⟩ := u_known (C := RX4) (T := TX4) (N := 6) (n := 6) hts (fun w hw => (List.mem_filter.mp (uw_X4 w hw)).1) (htw _ k_109)
  obtain ⟨c5, i5, hn5⟩ := u_known (C := RX5) (T := TX5) (N := 11) (n := 11) hts (fun w hw => (List.mem_filter.mp (uw_X5 w hw)).1) (htw _ k_26)
  obtain ⟨c6, i6, hn6⟩ := u_known (C := RX6) (T := TX6) (N := 11) (n := 11) hts (fun w hw => (List.mem_filter.mp (uw_X6 w hw)).1) (htw _ k_18)
  obtain ⟨c7, i7, hn7⟩ := u_known (C := RX7) (T := TX7) (N := 33) (n := 33) hts (fun w hw => (List.mem_filter.mp (uw_X7 w hw)).1) (htw _ k_694)
  obtain ⟨a0, ka0, p0, x0, y0, z0⟩ := Cond.arrayClass_spec (htw _ k_140)
  obtain ⟨a1, ka1, p1, x1, y1, z1⟩ := Cond.arrayClass_spec (htw _ k_82)
  obtain ⟨a2, ka2, p2, x2, y2, z2⟩ := Cond.arrayClass_spec (htw _ k_807)
  obtain ⟨p3, a3, ka3, w3, -, y3, z3, x3⟩ := Cond.arrayOver_spec (hts (.arrayOver (.object "BarrowGrief$Image")) (tb_m 105 (by decide +kernel)))
  obtain ⟨p4, a4, ka4, w4, -, y4, z4, x4⟩ := Cond.arrayOver_spec (hts (.arrayOver (.object "BarrowGrief$Sheet")) (tb_m 107 (by decide +kernel)))
  obtain ⟨p5, a5, ka5, w5, -, y5, z5, x5⟩ := Cond.arrayOver_spec (hts (.arrayOver (.object "BarrowGrief$World")) (tb_m 83 (by decide +kernel)))
  obtain ⟨dC, dI, hKc⟩ : ∃ (dC : Nat → ClassId) (dI : Nat → Nat → Nat), ∀ (k : Nat) (q : vw_C), vwCl[k]? = some q → u_Kn s q.1 q.2.1 q.2.2 (dC k) (dI k) := by
    refine ⟨fun k => if k = 0 then c0 else if k = 1 then c1 else if k = 2 then c2 else if k = 3 then c3 else if k = 4 then c4 else if k = 5 then c5 else if k = 6 then c6 else c7, fun k => if k = 0 then i0 else if k = 1 then i1 else if k = 2 then i2 else if k = 3 then i3 else if k = 4 then i4 else if k = 5 then i5 else if k = 6 then i6 else i7, ?_⟩
    intro k q hq
    match k, hq with
    | 0, hq => cases hq; exact hn0
    | 1, hq => cases hq; exact hn1
    | 2, hq => cases hq; exact hn2
    | 3, hq => cases hq; exact hn3
    | 4, hq => cases hq; exact hn4
    | 5, hq => cases hq; exact hn5
    | 6, hq => cases hq; exact hn6
    | 7, hq => cases hq; exact hn7
    | k + 8, hq => simp [vwCl] at hq
  refine ⟨(dC, dI), fun k => if k = 0 then a0 else if k = 1 then a1 else if k = 2 then a2 else if k = 3 then a3 else if k = 4 then a4 else a5, ⟨hKc, ?_⟩, va_Nw.of rfl (hts (.methodLinkNest RX2 28 yX6_within RX6) (tb_m 667 (by decide +kernel))), va_Nw.of rfl (hts (.methodLinkNest RX5 56 yX6_within RX6) (tb_m 434 (by decide +kernel)))⟩
  intro k q hq
  match k, hq with
  | 0, hq => cases hq; exact ⟨fun n z => ⟨fun k h => (by cases h), ka0, y0, p0, z0⟩, x0⟩
  | 1, hq => cases hq; exact ⟨fun n z => ⟨fun k h => (by cases h), ka1, y1, p1, z1⟩, x1⟩
  | 2, hq => cases hq; exact ⟨fun n z => ⟨fun k h => (by cases h), ka2, y2, p2, z2⟩, x2⟩
  | 3, hq => cases hq; exact ⟨fun n z => ⟨fun k h => (by cases h), ka3, y3, p3, z3⟩, ka3, p3, y3, z3, w3, x3⟩
  | 4, hq => cases hq; exact ⟨fun n z => ⟨fun k h => (by cases h), ka4, y4, p4, z4⟩, ka4, p4, y4, z4, w4, x4⟩
  | 5, hq => cases hq; exact ⟨fun n z => ⟨fun k h => (by cases h), ka5, y5, p5, z5⟩, ka5, p5, y5, z5, w5, x5⟩
  | k + 6, hq => simp at hq
theorem ws_N {s : State} {b : Nat} (hts : ∀ w ∈ lw_tbl, w.before #[Value.ref b] s = true) : n6_A s := ⟨⟨va_Nw.of rfl (hts (.methodLinkNest RX0 9 yX5_init RX6) (tb_m 170 (by decide +kernel))), va_Nw.of rfl (hts (.methodLinkNest RX0 18 yX3_init RX6) (tb_m 172 (by decide +kernel)))⟩, va_Nw.of rfl (hts (.methodLinkNest RX6 9 yX5_init RX6) (tb_m 27 (by decide +kernel))), va_Nw.of rfl (hts (.methodLinkNest RX6 25 yX3_init RX6) (tb_m 86 (by decide +kernel))), va_Nw.of rfl (hts (.methodLinkNest RX6 44 yX4_init RX6) (tb_m 110 (by decide +kernel))), va_Nw.of rfl (hts (.methodLinkNest RX6 65 yX0_init RX6) (tb_m 165 (by decide +kernel))), va_Nw.of rfl (hts (.methodLinkNest RX6 66 yX2_init RX6) (tb_m 186 (by decide +kernel))), va_AO.of (hts (.arrayOver (.object "BarrowGrief$World")) (tb_m 83 (by decide +kernel))), va_AO.of (hts (.arrayOver (.object "BarrowGrief$Image")) (tb_m 105 (by decide +kernel))), va_AO.of (hts (.arrayOver (.object "BarrowGrief$Sheet")) (tb_m 107 (by decide +kernel)))⟩
abbrev w0_W : s_W := (0, 0, 30, 0, 0, 0, 0, fun _ => 0, fun _ => 0, fun _ => 0, fun _ => 0)
abbrev v0_V : s_V := (0, fun _ => 0, fun _ => 0, fun _ => 0)
abbrev s0_S : s_S := (-1, 0, fun _ => 0)
abbrev t0_T : s_T := (0, 0, 0, 0, 0, fun _ => 0)
abbrev r0_R : s_R := (0, 0, 0)
theorem lw_0 {cy : Nat → ClassId} {qx qm : Nat} {ux um : Nat → Nat} : lw_R cy qx ux qm um (lw_W cy qx ux qm um 0 w0_W w0_W w0_W w0_W w0_W w0_W v0_V 0 0 w0_W w0_W v0_V v0_V s0_S s0_S s0_S s0_S t0_T r0_R (fun _ => 0) (fun _ => 0) 0 0 0 0 (-4) 0 0 0 0 0 0 0 0 0 0 0 0 0 0 0 (nf_a (cp_n (d0_n (fun _ => 0)) (fun _ => 0))) (fun _ => 0) (upd (upd (fun _ => 0) 0 0) 1 0) (nf_a (d0_n (fun _ => 0))) (fun _ => 0) (fun _ => 0) (fun _ => 0) (fun _ => 0) (fun _ => 0) (upd (upd (upd (upd (fun _ => 0) 0 (-4)) 1 (-4)) 2 (-4)) 3 (-4)) (fun _ => 0) (fun _ => 0) (fun _ => 0)) := by
  have z17 : cp_n (d0_n (fun _ => 0)) (fun _ => 0) 17 = 0 := by rw [cp_i (by omega), d0_o (by omega) (by omega)]
  have z15 : cp_n (d0_n (fun _ => 0)) (fun _ => 0) 15 = 30 := by rw [cp_i (by omega), d0_15]
  have z16 : cp_n (d0_n (fun _ => 0)) (fun _ => 0) 16 = 0 := by rw [cp_i (by omega), d0_o (by omega) (by omega)]
  have z26 : cp_n (d0_n (fun _ => 0)) (fun _ => 0) 26 = 0 := by rw [cp_i (by omega), d0_o (by omega) (by omega)]
  have z27 : cp_n (d0_n (fun _ => 0)) (fun _ => 0) 27 = 0 := by rw [cp_i (by omega), d0_o (by omega) (by omega)]
  have bk : bk_s 0 (cp_n (d0_n (fun _ => 0)) (fun _ => 0)) w0_W v0_V := by
    refine ⟨⟨0, 0, fun _ => 0, fun _ => 0, fun _ => 0, fun _ => 0, ?_, fun p hp => absurd hp (by omega), fun i hi => absurd hi (by rw [z17]; omega)⟩, ⟨by omega, by rw [z15]; omega, by rw [z16]; omega, by rw [z17]; omega, by rw [z26]; omega, fun p hp => absurd hp (by omega), fun i hi => absurd hi (by rw [z17]; omega)⟩, by rw [z26]; omega, by rw [z27]; rfl, by rw [z27]; omega, fun i hi => absurd hi (by rw [z27]; omega)⟩
    simp only [mk_w]
    rw [z15, z16, z17, z26]
    rfl
  refine lw_mk (pe := 0) (tn := 0) (sf := fun _ => s0_S) rfl rfl bk ⟨rfl, Or.inl rfl⟩ ⟨rfl, Or.inl rfl⟩ (fun k hk => Or.inl ⟨?_, rfl⟩) ⟨rfl, by omega, fun i hi => absurd hi (by omega)⟩
  rcases (show k = 0 ∨ k = 1 ∨ k = 2 ∨ k = 3 by omega) with rfl | rfl | rfl | rfl <;> rfl
