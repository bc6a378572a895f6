/-! the law's loop -/
theorem lx_5 {i L : Nat} (hi : i ≤ 325) (hL : L ≤ 320) (h : ¬ Int32.ofNat L - 5 < nI i) : i + 5 ≤ L := by
  by_cases c : 5 ≤ L
  · have e : Int32.ofNat L - 5 = nI (L - 5) := pk_sub (a := L) (b := 5) c
    rw [e] at h
    have h2 : ¬ (L - 5 < i) := fun q => h ((nI_ltI (by omega) (by omega)).mpr q)
    omega
  · exfalso
    apply h
    have z : (0 : Int32) ≤ nI i := nI_pos' (by omega)
    have q : L = 0 ∨ L = 1 ∨ L = 2 ∨ L = 3 ∨ L = 4 := by omega
    rcases q with rfl | rfl | rfl | rfl | rfl
    · exact Int32.lt_of_lt_of_le (by decide) z
    · exact Int32.lt_of_lt_of_le (by decide) z
    · exact Int32.lt_of_lt_of_le (by decide) z
    · exact Int32.lt_of_lt_of_le (by decide) z
    · exact Int32.lt_of_lt_of_le (by decide) z
set_option maxHeartbeats 8000000 in
set_option maxRecDepth 100000 in
theorem lx_L {p : Program} {l : Launch} {e : Env} {s : State} {m : MethodId} {below : List Frame} {meth : Method} {c : Code} {b L : Nat} {xs : Nat → Int32} {D : va_G} {cy : Nat → ClassId} {X : (Nat → Nat) × (Nat → Nat)} {qx qm : Nat} {ux um : Nat → Nat} (C0 : lx_C p s m meth c b L xs D cy X) : ∀ (n i : Nat), i + n = L + 5 → lx_G p l e s m below meth c b D cy qx ux qm um (nI i) 18 := by
  intro n
  induction n using Nat.strongRecOn with
  | _ n ih =>
    intro i hi ws H locs ls hR hP hD hS hl
    obtain ⟨⟨hx, hb, hr0, hml, hown, hts, hX, hbl, hlocks, hgv⟩, hL, hK, hE⟩ := id C0
    have hbA : ¬ (fun q : Nat => s.heap.size ≤ q) b := Nat.not_le.mpr hbl
    refine lv_iload_n hx hb dL_law_18 rfl (lv_at hl 0 rfl) ?_
    refine lv_aload_n hx hb dL_law_19 rfl (lv_at hl 1 rfl) ?_
    refine va_slen hx hb hX hbl hbA hS dL_law_20 ?_
    refine lv_iconst (v := 5) hx hb dL_law_21 (by decide) ?_
    refine lv_isub hx hb dL_law_22 ?_
    refine lv_icmp_gt (tgt := 1359) hx hb dL_law_23 (by decide) (fun c23 => ?_) (fun c23 => ?_)
    · refine lv_iconst (v := 1) hx hb dL_law_1359 (by decide) ?_
      refine va_forget (fun q h => hS.2.2 q h) ?_
      refine W.widen (k := 600000) (n := 7302250) (by omega) (by omega) ?_
      exact lw_ret hx hb hr0 hlocks dL_law_1360
    · have h5 : i + 5 ≤ L := lx_5 (by omega) hL c23
      have kk : lx_G p l e s m below meth c b D cy qx ux qm um (nI i + 5) 18 := by
        rw [show nI i + 5 = nI (i + 5) from nI_add i 5]
        exact ih (n - 5) (by omega) (i + 5) (by omega)
      refine lv_aload_n hx hb dL_law_26 rfl (lv_at hl 1 rfl) ?_
      refine lv_iload_n hx hb dL_law_27 rfl (lv_at hl 0 rfl) ?_
      refine va_sld hx hb hX hbl hbA hS (vp_in_nI (by omega) (by omega)) dL_law_28 ?_
      refine lv_bipush (v := 63) hx hb dL_law_29 (by decide) ?_
      refine lv_iand hx hb dL_law_31 ?_
      refine lv_topi (fun x ex => ?_)
      by_cases c_0 : x = 0
      · refine lv_tableIn (tgt := 204) hx hb dL_law_32 (by rw [c_0]; decide) (by rw [c_0]; decide) (by rw [c_0]; rfl) (by decide) ?_
        exact lp_0 C0 h5 kk ws H locs ls hR hP hD hS hl
      by_cases c_1 : x = 1
      · refine lv_tableIn (tgt := 227) hx hb dL_law_32 (by rw [c_1]; decide) (by rw [c_1]; decide) (by rw [c_1]; rfl) (by decide) ?_
        exact lp_1 C0 h5 kk ws H locs ls hR hP hD hS hl
      by_cases c_2 : x = 2
      · refine lv_tableIn (tgt := 250) hx hb dL_law_32 (by rw [c_2]; decide) (by rw [c_2]; decide) (by rw [c_2]; rfl) (by decide) ?_
        exact lp_2 C0 h5 kk ws H locs ls hR hP hD hS hl
      by_cases c_3 : x = 3
      · refine lv_tableIn (tgt := 263) hx hb dL_law_32 (by rw [c_3]; decide) (by rw [c_3]; decide) (by rw [c_3]; rfl) (by decide) ?_
        exact lp_3 C0 h5 kk ws H locs ls hR hP hD hS hl
      by_cases c_4 : x = 4
      · refine lv_tableIn (tgt := 276) hx hb dL_law_32 (by rw [c_4]; decide) (by rw [c_4]; decide) (by rw [c_4]; rfl) (by decide) ?_
        exact lp_4 C0 h5 kk ws H locs ls hR hP hD hS hl
      by_cases c_5 : x = 5
      · refine lv_tableIn (tgt := 299) hx hb dL_law_32 (by rw [c_5]; decide) (by rw [c_5]; decide) (by rw [c_5]; rfl) (by decide) ?_
        exact lp_5 C0 h5 kk ws H locs ls hR hP hD hS hl
      by_cases c_6 : x = 6
      · refine lv_tableIn (tgt := 332) hx hb dL_law_32 (by rw [c_6]; decide) (by rw [c_6]; decide) (by rw [c_6]; rfl) (by decide) ?_
        exact lp_6 C0 h5 kk ws H locs ls hR hP hD hS hl
      by_cases c_7 : x = 7
      · refine lv_tableIn (tgt := 355) hx hb dL_law_32 (by rw [c_7]; decide) (by rw [c_7]; decide) (by rw [c_7]; rfl) (by decide) ?_
        exact lp_7 C0 h5 kk ws H locs ls hR hP hD hS hl
      by_cases c_8 : x = 8
      · refine lv_tableIn (tgt := 398) hx hb dL_law_32 (by rw [c_8]; decide) (by rw [c_8]; decide) (by rw [c_8]; rfl) (by decide) ?_
        exact lp_8 C0 h5 kk ws H locs ls hR hP hD hS hl
      by_cases c_9 : x = 9
      · refine lv_tableIn (tgt := 421) hx hb dL_law_32 (by rw [c_9]; decide) (by rw [c_9]; decide) (by rw [c_9]; rfl) (by decide) ?_
        exact lp_9 C0 h5 kk ws H locs ls hR hP hD hS hl
      by_cases c_10 : x = 10
      · refine lv_tableIn (tgt := 444) hx hb dL_law_32 (by rw [c_10]; decide) (by rw [c_10]; decide) (by rw [c_10]; rfl) (by decide) ?_
        exact lp_10 C0 h5 kk ws H locs ls hR hP hD hS hl
      by_cases c_11 : x = 11
      · refine lv_tableIn (tgt := 467) hx hb dL_law_32 (by rw [c_11]; decide) (by rw [c_11]; decide) (by rw [c_11]; rfl) (by decide) ?_
        exact lp_11 C0 h5 kk ws H locs ls hR hP hD hS hl
      by_cases c_12 : x = 12
      · refine lv_tableIn (tgt := 490) hx hb dL_law_32 (by rw [c_12]; decide) (by rw [c_12]; decide) (by rw [c_12]; rfl) (by decide) ?_
        exact lp_12 C0 h5 kk ws H locs ls hR hP hD hS hl
      by_cases c_13 : x = 13
      · refine lv_tableIn (tgt := 513) hx hb dL_law_32 (by rw [c_13]; decide) (by rw [c_13]; decide) (by rw [c_13]; rfl) (by decide) ?_
        exact lp_13 C0 h5 kk ws H locs ls hR hP hD hS hl
      by_cases c_14 : x = 14
      · refine lv_tableIn (tgt := 546) hx hb dL_law_32 (by rw [c_14]; decide) (by rw [c_14]; decide) (by rw [c_14]; rfl) (by decide) ?_
        exact lp_14 C0 h5 kk ws H locs ls hR hP hD hS hl
      by_cases c_15 : x = 15
      · refine lv_tableIn (tgt := 579) hx hb dL_law_32 (by rw [c_15]; decide) (by rw [c_15]; decide) (by rw [c_15]; rfl) (by decide) ?_
        exact lp_15 C0 h5 kk ws H locs ls hR hP hD hS hl
      by_cases c_16 : x = 16
      · refine lv_tableIn (tgt := 602) hx hb dL_law_32 (by rw [c_16]; decide) (by rw [c_16]; decide) (by rw [c_16]; rfl) (by decide) ?_
        exact lp_16 C0 h5 kk ws H locs ls hR hP hD hS hl
      by_cases c_17 : x = 17
      · refine lv_tableIn (tgt := 625) hx hb dL_law_32 (by rw [c_17]; decide) (by rw [c_17]; decide) (by rw [c_17]; rfl) (by decide) ?_
        exact lp_17 C0 h5 kk ws H locs ls hR hP hD hS hl
      by_cases c_18 : x = 18
      · refine lv_tableIn (tgt := 648) hx hb dL_law_32 (by rw [c_18]; decide) (by rw [c_18]; decide) (by rw [c_18]; rfl) (by decide) ?_
        exact lp_18 C0 h5 kk ws H locs ls hR hP hD hS hl
      by_cases c_19 : x = 19
      · refine lv_tableIn (tgt := 681) hx hb dL_law_32 (by rw [c_19]; decide) (by rw [c_19]; decide) (by rw [c_19]; rfl) (by decide) ?_
        exact lp_19 C0 h5 kk ws H locs ls hR hP hD hS hl
      by_cases c_20 : x = 20
      · refine lv_tableIn (tgt := 714) hx hb dL_law_32 (by rw [c_20]; decide) (by rw [c_20]; decide) (by rw [c_20]; rfl) (by decide) ?_
        exact lp_20 C0 h5 kk ws H locs ls hR hP hD hS hl
      by_cases c_21 : x = 21
      · refine lv_tableIn (tgt := 747) hx hb dL_law_32 (by rw [c_21]; decide) (by rw [c_21]; decide) (by rw [c_21]; rfl) (by decide) ?_
        exact lp_21 C0 h5 kk ws H locs ls hR hP hD hS hl
      by_cases c_22 : x = 22
      · refine lv_tableIn (tgt := 770) hx hb dL_law_32 (by rw [c_22]; decide) (by rw [c_22]; decide) (by rw [c_22]; rfl) (by decide) ?_
        exact lp_22 C0 h5 kk ws H locs ls hR hP hD hS hl
      by_cases c_23 : x = 23
      · refine lv_tableIn (tgt := 803) hx hb dL_law_32 (by rw [c_23]; decide) (by rw [c_23]; decide) (by rw [c_23]; rfl) (by decide) ?_
        exact lp_23 C0 h5 kk ws H locs ls hR hP hD hS hl
      by_cases c_24 : x = 24
      · refine lv_tableIn (tgt := 846) hx hb dL_law_32 (by rw [c_24]; decide) (by rw [c_24]; decide) (by rw [c_24]; rfl) (by decide) ?_
        exact lp_24 C0 h5 kk ws H locs ls hR hP hD hS hl
      by_cases c_25 : x = 25
      · refine lv_tableIn (tgt := 900) hx hb dL_law_32 (by rw [c_25]; decide) (by rw [c_25]; decide) (by rw [c_25]; rfl) (by decide) ?_
        exact lp_25 C0 h5 kk ws H locs ls hR hP hD hS hl
      by_cases c_26 : x = 26
      · refine lv_tableIn (tgt := 944) hx hb dL_law_32 (by rw [c_26]; decide) (by rw [c_26]; decide) (by rw [c_26]; rfl) (by decide) ?_
        exact lp_26 C0 h5 kk ws H locs ls hR hP hD hS hl
      by_cases c_27 : x = 27
      · refine lv_tableIn (tgt := 987) hx hb dL_law_32 (by rw [c_27]; decide) (by rw [c_27]; decide) (by rw [c_27]; rfl) (by decide) ?_
        exact lp_27 C0 h5 kk ws H locs ls hR hP hD hS hl
      by_cases c_28 : x = 28
      · refine lv_tableIn (tgt := 1010) hx hb dL_law_32 (by rw [c_28]; decide) (by rw [c_28]; decide) (by rw [c_28]; rfl) (by decide) ?_
        exact lp_28 C0 h5 kk ws H locs ls hR hP hD hS hl
      by_cases c_29 : x = 29
      · refine lv_tableIn (tgt := 1033) hx hb dL_law_32 (by rw [c_29]; decide) (by rw [c_29]; decide) (by rw [c_29]; rfl) (by decide) ?_
        exact lp_29 C0 h5 kk ws H locs ls hR hP hD hS hl
      by_cases c_30 : x = 30
      · refine lv_tableIn (tgt := 1056) hx hb dL_law_32 (by rw [c_30]; decide) (by rw [c_30]; decide) (by rw [c_30]; rfl) (by decide) ?_
        exact lp_30 C0 h5 kk ws H locs ls hR hP hD hS hl
      by_cases c_31 : x = 31
      · refine lv_tableIn (tgt := 1089) hx hb dL_law_32 (by rw [c_31]; decide) (by rw [c_31]; decide) (by rw [c_31]; rfl) (by decide) ?_
        exact lp_31 C0 h5 kk ws H locs ls hR hP hD hS hl
      by_cases c_32 : x = 32
      · refine lv_tableIn (tgt := 1132) hx hb dL_law_32 (by rw [c_32]; decide) (by rw [c_32]; decide) (by rw [c_32]; rfl) (by decide) ?_
        exact lp_32 C0 h5 kk ws H locs ls hR hP hD hS hl
      by_cases c_33 : x = 33
      · refine lv_tableIn (tgt := 1155) hx hb dL_law_32 (by rw [c_33]; decide) (by rw [c_33]; decide) (by rw [c_33]; rfl) (by decide) ?_
        exact lp_33 C0 h5 kk ws H locs ls hR hP hD hS hl
      by_cases c_34 : x = 34
      · refine lv_tableIn (tgt := 1178) hx hb dL_law_32 (by rw [c_34]; decide) (by rw [c_34]; decide) (by rw [c_34]; rfl) (by decide) ?_
        exact lp_34 C0 h5 kk ws H locs ls hR hP hD hS hl
      by_cases c_35 : x = 35
      · refine lv_tableIn (tgt := 1221) hx hb dL_law_32 (by rw [c_35]; decide) (by rw [c_35]; decide) (by rw [c_35]; rfl) (by decide) ?_
        exact lp_35 C0 h5 kk ws H locs ls hR hP hD hS hl
      by_cases c_36 : x = 36
      · refine lv_tableIn (tgt := 1264) hx hb dL_law_32 (by rw [c_36]; decide) (by rw [c_36]; decide) (by rw [c_36]; rfl) (by decide) ?_
        exact lp_36 C0 h5 kk ws H locs ls hR hP hD hS hl
      by_cases c_37 : x = 37
      · refine lv_tableIn (tgt := 1317) hx hb dL_law_32 (by rw [c_37]; decide) (by rw [c_37]; decide) (by rw [c_37]; rfl) (by decide) ?_
        exact lp_37 C0 h5 kk ws H locs ls hR hP hD hS hl
      by_cases c_38 : x = 38
      · refine lv_tableIn (tgt := 1330) hx hb dL_law_32 (by rw [c_38]; decide) (by rw [c_38]; decide) (by rw [c_38]; rfl) (by decide) ?_
        exact lp_38 C0 h5 kk ws H locs ls hR hP hD hS hl
      have n_0 := sw_ne 0 (by decide) c_0
      have n_1 := sw_ne 1 (by decide) c_1
      have n_2 := sw_ne 2 (by decide) c_2
      have n_3 := sw_ne 3 (by decide) c_3
      have n_4 := sw_ne 4 (by decide) c_4
      have n_5 := sw_ne 5 (by decide) c_5
      have n_6 := sw_ne 6 (by decide) c_6
      have n_7 := sw_ne 7 (by decide) c_7
      have n_8 := sw_ne 8 (by decide) c_8
      have n_9 := sw_ne 9 (by decide) c_9
      have n_10 := sw_ne 10 (by decide) c_10
      have n_11 := sw_ne 11 (by decide) c_11
      have n_12 := sw_ne 12 (by decide) c_12
      have n_13 := sw_ne 13 (by decide) c_13
      have n_14 := sw_ne 14 (by decide) c_14
      have n_15 := sw_ne 15 (by decide) c_15
      have n_16 := sw_ne 16 (by decide) c_16
      have n_17 := sw_ne 17 (by decide) c_17
      have n_18 := sw_ne 18 (by decide) c_18
      have n_19 := sw_ne 19 (by decide) c_19
      have n_20 := sw_ne 20 (by decide) c_20
      have n_21 := sw_ne 21 (by decide) c_21
      have n_22 := sw_ne 22 (by decide) c_22
      have n_23 := sw_ne 23 (by decide) c_23
      have n_24 := sw_ne 24 (by decide) c_24
      have n_25 := sw_ne 25 (by decide) c_25
      have n_26 := sw_ne 26 (by decide) c_26
      have n_27 := sw_ne 27 (by decide) c_27
      have n_28 := sw_ne 28 (by decide) c_28
      have n_29 := sw_ne 29 (by decide) c_29
      have n_30 := sw_ne 30 (by decide) c_30
      have n_31 := sw_ne 31 (by decide) c_31
      have n_32 := sw_ne 32 (by decide) c_32
      have n_33 := sw_ne 33 (by decide) c_33
      have n_34 := sw_ne 34 (by decide) c_34
      have n_35 := sw_ne 35 (by decide) c_35
      have n_36 := sw_ne 36 (by decide) c_36
      have n_37 := sw_ne 37 (by decide) c_37
      have n_38 := sw_ne 38 (by decide) c_38
      refine lv_tableOut (tgt := 1353) hx hb dL_law_32 (by omega) (by decide) ?_
      exact lx_T C0 kk ws H locs ls hR hP hD hS hl
