set_option maxHeartbeats 8000000 in
set_option maxRecDepth 100000 in
theorem lp_30 {p : Program} {l : Launch} {e : Env} {s : State} {m : MethodId} {below : List Frame} {meth : Method} {c : Code} {b L : Nat} {xs : Nat → Int32} {D : va_G} {cy : Nat → ClassId} {X : (Nat → Nat) × (Nat → Nat)} {qx qm : Nat} {ux um : Nat → Nat} {i : Nat} (C0 : lx_C p s m meth c b L xs D cy X) (hi5 : i + 5 ≤ L) (kk : lx_G p l e s m below meth c b D cy qx ux qm um (nI i + 5) 18) : lx_G p l e s m below meth c b D cy qx ux qm um (nI i) 1056 := by
  intro ws H locs ls hR hP hD hS hl
  obtain ⟨⟨hx, hb, hr0, hml, hown, hts, hX, hbl, hlocks, hgv⟩, hL, hK, hE⟩ := id C0
  have htw := lx_h hts
  have hA : ∀ q : Nat, s.heap.size ≤ q → (fun q : Nat => s.heap.size ≤ q) q := fun _ h => h
  have hbA : ¬ (fun q : Nat => s.heap.size ≤ q) b := Nat.not_le.mpr hbl
  obtain ⟨pe, tn, S, N, Dr, torn, now, trial, wg0, wg1, wg2, wg3, seen, k0, k1, iw0, iw1, is0, is1, sf, tp, rd, row, best, dp, mb, mr, mh, po, be, so, va, wr, he, sp, bc, bm, l1, l2, l3, kp, tape, row2, best2, heavy, byk, lan, siz, cel, bef, rfl, h1, hi0, hi1, hs4, htp⟩ := hR
  obtain ⟨z1, ez1⟩ : ∃ z, z = xs (nI i + nI 1).toNatClampNeg := ⟨_, rfl⟩
  obtain ⟨z2, ez2⟩ : ∃ z, z = xs (nI i + nI 2).toNatClampNeg := ⟨_, rfl⟩
  obtain ⟨r, q1, q2, e1, e2⟩ := op_ask (f := 5000) (N := N) (x := he) (y := sp) (t := trial) (bc := bc) (bm := bm) (H := heavy) (BK := byk) (g3 := wg3) (g2 := wg2) (g1 := wg1) (g0 := wg0) h1 (by decide) z1 z2
  refine lv_aload_n hx hb dL_law_1056 rfl (lv_at hl 2 rfl) ?_
  refine lv_aload_n hx hb dL_law_1057 rfl (lv_at hl 1 rfl) ?_
  refine lv_iload_n hx hb dL_law_1058 rfl (lv_at hl 0 rfl) ?_
  refine lv_iconst (v := nI 1) hx hb dL_law_1059 (by decide) ?_
  refine lv_iadd hx hb dL_law_1060 ?_
  refine va_sld hx hb hX hbl hbA hS (lx_v (k := 1) hi5 (by omega) hL) dL_law_1061 ?_
  rw [← ez1]
  refine lv_aload_n hx hb dL_law_1062 rfl (lv_at hl 1 rfl) ?_
  refine lv_iload_n hx hb dL_law_1063 rfl (lv_at hl 0 rfl) ?_
  refine lv_iconst (v := nI 2) hx hb dL_law_1064 (by decide) ?_
  refine lv_iadd hx hb dL_law_1065 ?_
  refine va_sld hx hb hX hbl hbA hS (lx_v (k := 2) hi5 (by omega) hL) dL_law_1066 ?_
  rw [← ez2]
  have hPc := hP.sub (ws' := wc_X6_ask cy qx (ux 0) (ux 1) (ux 2) (ux 3) (ux 4) (ux 5) (ux 6) (ux 7) (ux 8) (ux 9) (ux 11) (ux 12) (ux 13) (ux 14) (ux 10) (ux 37) (ux 38) (ux 39) (ux 40) (ux 41) (ux 32) (ux 33) (ux 34) (ux 35) (ux 36) (ux 27) (ux 28) (ux 29) (ux 30) (ux 31) (ux 22) (ux 23) (ux 24) (ux 25) (ux 26) (ux 15) (ux 16) (ux 17) (ux 19) (ux 20) (ux 21) torn now trial seen wg3 wg2 wg1 wg0) [0, 1, 2, 3, 4, 5, 6, 7, 8, 9, 10, 12, 13, 14, 15, 11, 38, 39, 40, 41, 42, 33, 34, 35, 36, 37, 28, 29, 30, 31, 32, 23, 24, 25, 26, 27] rfl
  have hDc := hD.sub (ws' := wc_X6_ask cy qx (ux 0) (ux 1) (ux 2) (ux 3) (ux 4) (ux 5) (ux 6) (ux 7) (ux 8) (ux 9) (ux 11) (ux 12) (ux 13) (ux 14) (ux 10) (ux 37) (ux 38) (ux 39) (ux 40) (ux 41) (ux 32) (ux 33) (ux 34) (ux 35) (ux 36) (ux 27) (ux 28) (ux 29) (ux 30) (ux 31) (ux 22) (ux 23) (ux 24) (ux 25) (ux 26) (ux 15) (ux 16) (ux 17) (ux 19) (ux 20) (ux 21) torn now trial seen wg3 wg2 wg1 wg0) [0, 1, 2, 3, 4, 5, 6, 7, 8, 9, 10, 12, 13, 14, 15, 11, 38, 39, 40, 41, 42, 33, 34, 35, 36, 37, 28, 29, 30, 31, 32, 23, 24, 25, 26, 27] (by decide +kernel) rfl
  refine cl_i (fun (u : s_W × s_W × s_W × s_W × s_W) => lw_W cy qx ux qm um torn now u.1 u.2.2.2.2 u.2.2.2.1 u.2.2.1 u.2.1 seen k0 k1 iw0 iw1 is0 is1 (sf 0) (sf 1) (sf 2) (sf 3) tp rd row best (nI pe) dp mb mr mh (nI tn) po be so va rd.2.2 wr he sp bc bm l1 l2 l3 torn (nf_a S) (nf_a N) kp (nf_a Dr) tape row2 best2 heavy byk lan siz cel bef) (va_runV (As := [.int z1, .int z2]) (rest := []) (C := RX6) ⟨hx, hb, hml, hown, hts⟩ (c_X6_ask l D cy H.size qx (ux 0) (ux 1) (ux 2) (ux 3) (ux 4) (ux 5) (ux 6) (ux 7) (ux 8) (ux 9) (ux 11) (ux 12) (ux 13) (ux 14) (ux 10) (ux 37) (ux 38) (ux 39) (ux 40) (ux 41) (ux 32) (ux 33) (ux 34) (ux 35) (ux 36) (ux 27) (ux 28) (ux 29) (ux 30) (ux 31) (ux 22) (ux 23) (ux 24) (ux 25) (ux 26) (ux 15) (ux 16) (ux 17) (ux 19) (ux 20) (ux 21) torn now trial seen wg3 wg2 wg1 wg0 z1 z2 (f := 5000) e1) ⟨callB_of 2 hts (wg_law k_618) rfl rfl rfl (htw _ k_1) (htw _ k_615) (by decide +kernel) ⟨by decide, by decide⟩, (htw _ k_616), (htw _ k_617)⟩ ⟨st_blind, va_recv hK.1 hPc (ci := 6) (q0 := 0) rfl rfl, fun U hU hW => st_pre hK hPc hDc hU hW⟩ rfl rfl hl.1 rfl (lv_room (Nat.le_of_ble_eq_true rfl)) dL_law_1067 ⟨by decide, by decide⟩) hP hD hS hA [0, 1, 2, 3, 4, 5, 6, 7, 8, 9, 10, 12, 13, 14, 15, 11, 38, 39, 40, 41, 42, 33, 34, 35, 36, 37, 28, 29, 30, 31, 32, 23, 24, 25, 26, 27] [16, 17, 18, 19, 20, 21, 22, 43, 44, 45, 46, 47, 48, 49, 50, 51, 52, 53, 54, 55, 56, 57, 58, 59, 60, 61, 62, 63, 64, 65, 66, 67, 68, 69, 70, 71, 72, 73, 74, 75, 76, 77, 78, 79, 80, 81, 82, 83, 84] [49, 50, 51, 52, 53, 54, 55, 56, 57, 58, 59, 64, 60, 61, 62, 63, 0, 1, 2, 3, 4, 5, 6, 80, 81, 82, 83, 84, 75, 76, 77, 78, 79, 70, 71, 72, 73, 74, 65, 66, 67, 68, 69, 7, 8, 9, 10, 11, 12, 13, 14, 15, 16, 17, 18, 19, 20, 21, 22, 23, 24, 25, 26, 27, 28, 29, 30, 31, 32, 33, 34, 35, 36, 37, 38, 39, 40, 41, 42, 43, 44, 45, 46, 47, 48] rfl rfl (by decide +kernel) (by decide +kernel) (by decide +kernel) (fun _ => rfl) (fun r0 u H locs hw hP hD hS => ?_)
  obtain ⟨rfl, rfl⟩ := hw
  have hP : va_P D vwCl (lw_W cy qx ux qm um torn now q1.1 q1.2.2.2.2 q1.2.2.2.1 q1.2.2.1 q1.2.1 seen k0 k1 iw0 iw1 is0 is1 (sf 0) (sf 1) (sf 2) (sf 3) tp rd row best (nI pe) dp mb mr mh (nI tn) po be so va rd.2.2 wr he sp bc bm l1 l2 l3 torn (nf_a S) (nf_a N) kp (nf_a Dr) tape row2 best2 heavy byk lan siz cel bef) H := hP
  have hD : va_D (fun q : Nat => s.heap.size ≤ q) (lw_W cy qx ux qm um torn now q1.1 q1.2.2.2.2 q1.2.2.2.1 q1.2.2.1 q1.2.1 seen k0 k1 iw0 iw1 is0 is1 (sf 0) (sf 1) (sf 2) (sf 3) tp rd row best (nI pe) dp mb mr mh (nI tn) po be so va rd.2.2 wr he sp bc bm l1 l2 l3 torn (nf_a S) (nf_a N) kp (nf_a Dr) tape row2 best2 heavy byk lan siz cel bef) := hD
  refine W.eq (g2 := F0 m 1070 ls [.int r]) rfl ?_
  refine lv_aload_n hx hb dL_law_1070 rfl (lv_at hl 3 rfl) ?_
  refine lv_aload_n hx hb dL_law_1071 rfl (lv_at hl 1 rfl) ?_
  refine lv_iload_n hx hb dL_law_1072 rfl (lv_at hl 0 rfl) ?_
  refine lv_iconst (v := nI 1) hx hb dL_law_1073 (by decide) ?_
  refine lv_iadd hx hb dL_law_1074 ?_
  refine va_sld hx hb hX hbl hbA hS (lx_v (k := 1) hi5 (by omega) hL) dL_law_1075 ?_
  rw [← ez1]
  refine lv_aload_n hx hb dL_law_1076 rfl (lv_at hl 1 rfl) ?_
  refine lv_iload_n hx hb dL_law_1077 rfl (lv_at hl 0 rfl) ?_
  refine lv_iconst (v := nI 2) hx hb dL_law_1078 (by decide) ?_
  refine lv_iadd hx hb dL_law_1079 ?_
  refine va_sld hx hb hX hbl hbA hS (lx_v (k := 2) hi5 (by omega) hL) dL_law_1080 ?_
  rw [← ez2]
  have hPc := hP.sub (ws' := wc_X7_ask cy qm (um 0) (um 1) (um 7) (um 8) (um 2) (um 3) (um 4) (um 5) (um 6) (um 9) (um 10) (um 11) (um 12) (nI pe) dp mb mr mh (nI tn) po be so va rd.2.2 wr he sp bc bm l1 l2 l3 torn (nf_a S) (nf_a N) heavy byk) [71, 72, 73, 79, 80] rfl
  have hDc := hD.sub (ws' := wc_X7_ask cy qm (um 0) (um 1) (um 7) (um 8) (um 2) (um 3) (um 4) (um 5) (um 6) (um 9) (um 10) (um 11) (um 12) (nI pe) dp mb mr mh (nI tn) po be so va rd.2.2 wr he sp bc bm l1 l2 l3 torn (nf_a S) (nf_a N) heavy byk) [71, 72, 73, 79, 80] (by decide +kernel) rfl
  refine cl_i (fun (u : Int32 × Int32 × Int32 × Int32 × (Nat → Int32) × (Nat → Int32) × (Nat → Int32)) => lw_W cy qx ux qm um torn now q1.1 q1.2.2.2.2 q1.2.2.2.1 q1.2.2.1 q1.2.1 seen k0 k1 iw0 iw1 is0 is1 (sf 0) (sf 1) (sf 2) (sf 3) tp rd row best (nI pe) dp mb mr mh (nI tn) po be so va rd.2.2 wr u.1 u.2.1 u.2.2.1 u.2.2.2.1 l1 l2 l3 torn (nf_a S) u.2.2.2.2.1 kp (nf_a Dr) tape row2 best2 u.2.2.2.2.2.1 u.2.2.2.2.2.2 lan siz cel bef) (va_runV (As := [.int z1, .int z2]) (rest := [.int r]) (C := RX7) ⟨hx, hb, hml, hown, hts⟩ (c_X7_ask l D cy H.size qm (um 0) (um 1) (um 7) (um 8) (um 2) (um 3) (um 4) (um 5) (um 6) (um 9) (um 10) (um 11) (um 12) (nI pe) dp mb mr mh (nI tn) po be so va rd.2.2 wr he sp bc bm l1 l2 l3 torn (nf_a S) (nf_a N) heavy byk z1 z2 (f := 5000) e2) ⟨callB_of 2 hts (wg_law k_1104) rfl rfl rfl (htw _ k_8) (htw _ k_1101) (by decide +kernel) ⟨by decide, by decide⟩, (htw _ k_1102), (htw _ k_1103)⟩ ⟨st_blind, va_recv hK.1 hPc (ci := 7) (q0 := 0) rfl rfl, fun U hU hW => st_pre hK hPc hDc hU hW⟩ rfl rfl hl.1 rfl (lv_room (Nat.le_of_ble_eq_true rfl)) dL_law_1081 ⟨by decide, by decide⟩) hP hD hS hA [71, 72, 73, 79, 80] [0, 1, 2, 3, 4, 5, 6, 7, 8, 9, 10, 11, 12, 13, 14, 15, 16, 17, 18, 19, 20, 21, 22, 23, 24, 25, 26, 27, 28, 29, 30, 31, 32, 33, 34, 35, 36, 37, 38, 39, 40, 41, 42, 43, 44, 45, 46, 47, 48, 49, 50, 51, 52, 53, 54, 55, 56, 57, 58, 59, 60, 61, 62, 63, 64, 65, 66, 67, 68, 69, 70, 74, 75, 76, 77, 78, 81, 82, 83, 84] [0, 1, 2, 3, 4, 5, 6, 7, 8, 9, 10, 11, 12, 13, 14, 15, 16, 17, 18, 19, 20, 21, 22, 23, 24, 25, 26, 27, 28, 29, 30, 31, 32, 33, 34, 35, 36, 37, 38, 39, 40, 41, 42, 43, 44, 45, 46, 47, 48, 49, 50, 51, 52, 53, 54, 55, 56, 57, 58, 59, 60, 61, 62, 63, 64, 65, 66, 67, 68, 69, 70, 80, 81, 82, 71, 72, 73, 74, 75, 83, 84, 76, 77, 78, 79] rfl rfl (by decide +kernel) (by decide +kernel) (by decide +kernel) (fun _ => rfl) (fun r0 u H locs hw hP hD hS => ?_)
  obtain ⟨rfl, rfl⟩ := hw
  have hP : va_P D vwCl (lw_W cy qx ux qm um torn now q1.1 q1.2.2.2.2 q1.2.2.2.1 q1.2.2.1 q1.2.1 seen k0 k1 iw0 iw1 is0 is1 (sf 0) (sf 1) (sf 2) (sf 3) tp rd row best (nI pe) dp mb mr mh (nI tn) po be so va rd.2.2 wr q2.1 q2.2.1 q2.2.2.1 q2.2.2.2.1 l1 l2 l3 torn (nf_a S) q2.2.2.2.2.1 kp (nf_a Dr) tape row2 best2 q2.2.2.2.2.2.1 q2.2.2.2.2.2.2 lan siz cel bef) H := hP
  have hD : va_D (fun q : Nat => s.heap.size ≤ q) (lw_W cy qx ux qm um torn now q1.1 q1.2.2.2.2 q1.2.2.2.1 q1.2.2.1 q1.2.1 seen k0 k1 iw0 iw1 is0 is1 (sf 0) (sf 1) (sf 2) (sf 3) tp rd row best (nI pe) dp mb mr mh (nI tn) po be so va rd.2.2 wr q2.1 q2.2.1 q2.2.2.1 q2.2.2.2.1 l1 l2 l3 torn (nf_a S) q2.2.2.2.2.1 kp (nf_a Dr) tape row2 best2 q2.2.2.2.2.2.1 q2.2.2.2.2.2.2 lan siz cel bef) := hD
  refine W.eq (g2 := F0 m 1084 ls [.int r, .int r]) rfl ?_
  refine lv_icmp_eq (tgt := 1353) hx hb dL_law_1084 (by decide) (fun _ => ?_) (fun cc => absurd rfl cc)
  have hR2 : lw_R cy qx ux qm um (lw_W cy qx ux qm um torn now q1.1 q1.2.2.2.2 q1.2.2.2.1 q1.2.2.1 q1.2.1 seen k0 k1 iw0 iw1 is0 is1 (sf 0) (sf 1) (sf 2) (sf 3) tp rd row best (nI pe) dp mb mr mh (nI tn) po be so va rd.2.2 wr q2.1 q2.2.1 q2.2.2.1 q2.2.2.2.1 l1 l2 l3 torn (nf_a S) q2.2.2.2.2.1 kp (nf_a Dr) tape row2 best2 q2.2.2.2.2.2.1 q2.2.2.2.2.2.2 lan siz cel bef) := lw_mk (sf := sf) rfl rfl h1 hi0 hi1 hs4 htp
  exact lx_T C0 kk _ _ _ _ hR2 hP hD hS (lv_sub hl [0, 1, 2, 3] rfl)
set_option maxHeartbeats 8000000 in
set_option maxRecDepth 100000 in
theorem lp_31 {p : Program} {l : Launch} {e : Env} {s : State} {m : MethodId} {below : List Frame} {meth : Method} {c : Code} {b L : Nat} {xs : Nat → Int32} {D : va_G} {cy : Nat → ClassId} {X : (Nat → Nat) × (Nat → Nat)} {qx qm : Nat} {ux um : Nat → Nat} {i : Nat} (C0 : lx_C p s m meth c b L xs D cy X) (hi5 : i + 5 ≤ L) (kk : lx_G p l e s m below meth c b D cy qx ux qm um (nI i + 5) 18) : lx_G p l e s m below meth c b D cy qx ux qm um (nI i) 1089 := by
  intro ws H locs ls hR hP hD hS hl
  obtain ⟨⟨hx, hb, hr0, hml, hown, hts, hX, hbl, hlocks, hgv⟩, hL, hK, hE⟩ := id C0
  have htw := lx_h hts
  have hA : ∀ q : Nat, s.heap.size ≤ q → (fun q : Nat => s.heap.size ≤ q) q := fun _ h => h
  have hbA : ¬ (fun q : Nat => s.heap.size ≤ q) b := Nat.not_le.mpr hbl
  obtain ⟨pe, tn, S, N, Dr, torn, now, trial, wg0, wg1, wg2, wg3, seen, k0, k1, iw0, iw1, is0, is1, sf, tp, rd, row, best, dp, mb, mr, mh, po, be, so, va, wr, he, sp, bc, bm, l1, l2, l3, kp, tape, row2, best2, heavy, byk, lan, siz, cel, bef, rfl, h1, hi0, hi1, hs4, htp⟩ := hR
  obtain ⟨z1, ez1⟩ : ∃ z, z = xs (nI i + nI 1).toNatClampNeg := ⟨_, rfl⟩
  obtain ⟨z2, ez2⟩ : ∃ z, z = xs (nI i + nI 2).toNatClampNeg := ⟨_, rfl⟩
  obtain ⟨z3, ez3⟩ : ∃ z, z = xs (nI i + nI 3).toNatClampNeg := ⟨_, rfl⟩
  obtain ⟨r, t2, q, e1, e2⟩ := op_drift (f := 5000) (N := N) (x := he) (y := sp) (t := trial) h1 (by decide) z1 z2 z3
  refine lv_aload_n hx hb dL_law_1089 rfl (lv_at hl 2 rfl) ?_
  refine lv_aload_n hx hb dL_law_1090 rfl (lv_at hl 1 rfl) ?_
  refine lv_iload_n hx hb dL_law_1091 rfl (lv_at hl 0 rfl) ?_
  refine lv_iconst (v := nI 1) hx hb dL_law_1092 (by decide) ?_
  refine lv_iadd hx hb dL_law_1093 ?_
  refine va_sld hx hb hX hbl hbA hS (lx_v (k := 1) hi5 (by omega) hL) dL_law_1094 ?_
  rw [← ez1]
  refine lv_aload_n hx hb dL_law_1095 rfl (lv_at hl 1 rfl) ?_
  refine lv_iload_n hx hb dL_law_1096 rfl (lv_at hl 0 rfl) ?_
  refine lv_iconst (v := nI 2) hx hb dL_law_1097 (by decide) ?_
  refine lv_iadd hx hb dL_law_1098 ?_
  refine va_sld hx hb hX hbl hbA hS (lx_v (k := 2) hi5 (by omega) hL) dL_law_1099 ?_
  rw [← ez2]
  refine lv_aload_n hx hb dL_law_1100 rfl (lv_at hl 1 rfl) ?_
  refine lv_iload_n hx hb dL_law_1101 rfl (lv_at hl 0 rfl) ?_
  refine lv_iconst (v := nI 3) hx hb dL_law_1102 (by decide) ?_
  refine lv_iadd hx hb dL_law_1103 ?_
  refine va_sld hx hb hX hbl hbA hS (lx_v (k := 3) hi5 (by omega) hL) dL_law_1104 ?_
  rw [← ez3]
  have hPc := hP.sub (ws' := wc_X6_drift cy qx (ux 0) (ux 1) (ux 2) (ux 3) (ux 4) (ux 5) (ux 6) (ux 7) (ux 8) (ux 9) (ux 10) (ux 11) (ux 15) (ux 16) (ux 17) (ux 19) (ux 20) (ux 21) torn now trial) [0, 1, 2, 3, 4, 5, 6, 7, 8, 9, 10] rfl
  have hDc := hD.sub (ws' := wc_X6_drift cy qx (ux 0) (ux 1) (ux 2) (ux 3) (ux 4) (ux 5) (ux 6) (ux 7) (ux 8) (ux 9) (ux 10) (ux 11) (ux 15) (ux 16) (ux 17) (ux 19) (ux 20) (ux 21) torn now trial) [0, 1, 2, 3, 4, 5, 6, 7, 8, 9, 10] (by decide +kernel) rfl
  refine cl_i (fun (u : s_W) => lw_W cy qx ux qm um torn now u wg0 wg1 wg2 wg3 seen k0 k1 iw0 iw1 is0 is1 (sf 0) (sf 1) (sf 2) (sf 3) tp rd row best (nI pe) dp mb mr mh (nI tn) po be so va rd.2.2 wr he sp bc bm l1 l2 l3 torn (nf_a S) (nf_a N) kp (nf_a Dr) tape row2 best2 heavy byk lan siz cel bef) (va_runV (As := [.int z1, .int z2, .int z3]) (rest := []) (C := RX6) ⟨hx, hb, hml, hown, hts⟩ (c_X6_drift l D cy H.size qx (ux 0) (ux 1) (ux 2) (ux 3) (ux 4) (ux 5) (ux 6) (ux 7) (ux 8) (ux 9) (ux 10) (ux 11) (ux 15) (ux 16) (ux 17) (ux 19) (ux 20) (ux 21) torn now trial z1 z2 z3 (f := 5000) e1) ⟨callB_of 3 hts (wg_law k_632) rfl rfl rfl (htw _ k_1) (htw _ k_629) (by decide +kernel) ⟨by decide, by decide⟩, (htw _ k_630), (htw _ k_631)⟩ ⟨st_blind, va_recv hK.1 hPc (ci := 6) (q0 := 0) rfl rfl, fun U hU hW => st_pre hK hPc hDc hU hW⟩ rfl rfl hl.1 rfl (lv_room (Nat.le_of_ble_eq_true rfl)) dL_law_1105 ⟨by decide, by decide⟩) hP hD hS hA [0, 1, 2, 3, 4, 5, 6, 7, 8, 9, 10] [11, 12, 13, 14, 15, 16, 17, 18, 19, 20, 21, 22, 23, 24, 25, 26, 27, 28, 29, 30, 31, 32, 33, 34, 35, 36, 37, 38, 39, 40, 41, 42, 43, 44, 45, 46, 47, 48, 49, 50, 51, 52, 53, 54, 55, 56, 57, 58, 59, 60, 61, 62, 63, 64, 65, 66, 67, 68, 69, 70, 71, 72, 73, 74, 75, 76, 77, 78, 79, 80, 81, 82, 83, 84] [74, 75, 76, 77, 78, 79, 80, 81, 82, 83, 84, 0, 1, 2, 3, 4, 5, 6, 7, 8, 9, 10, 11, 12, 13, 14, 15, 16, 17, 18, 19, 20, 21, 22, 23, 24, 25, 26, 27, 28, 29, 30, 31, 32, 33, 34, 35, 36, 37, 38, 39, 40, 41, 42, 43, 44, 45, 46, 47, 48, 49, 50, 51, 52, 53, 54, 55, 56, 57, 58, 59, 60, 61, 62, 63, 64, 65, 66, 67, 68, 69, 70, 71, 72, 73] rfl rfl (by decide +kernel) (by decide +kernel) (by decide +kernel) (fun _ => rfl) (fun r0 u H locs hw hP hD hS => ?_)
  obtain ⟨rfl, rfl⟩ := hw
  have hP : va_P D vwCl (lw_W cy qx ux qm um torn now t2 wg0 wg1 wg2 wg3 seen k0 k1 iw0 iw1 is0 is1 (sf 0) (sf 1) (sf 2) (sf 3) tp rd row best (nI pe) dp mb mr mh (nI tn) po be so va rd.2.2 wr he sp bc bm l1 l2 l3 torn (nf_a S) (nf_a N) kp (nf_a Dr) tape row2 best2 heavy byk lan siz cel bef) H := hP
  have hD : va_D (fun q : Nat => s.heap.size ≤ q) (lw_W cy qx ux qm um torn now t2 wg0 wg1 wg2 wg3 seen k0 k1 iw0 iw1 is0 is1 (sf 0) (sf 1) (sf 2) (sf 3) tp rd row best (nI pe) dp mb mr mh (nI tn) po be so va rd.2.2 wr he sp bc bm l1 l2 l3 torn (nf_a S) (nf_a N) kp (nf_a Dr) tape row2 best2 heavy byk lan siz cel bef) := hD
  refine W.eq (g2 := F0 m 1108 ls [.int r]) rfl ?_
  refine lv_aload_n hx hb dL_law_1108 rfl (lv_at hl 3 rfl) ?_
  refine lv_aload_n hx hb dL_law_1109 rfl (lv_at hl 1 rfl) ?_
  refine lv_iload_n hx hb dL_law_1110 rfl (lv_at hl 0 rfl) ?_
  refine lv_iconst (v := nI 1) hx hb dL_law_1111 (by decide) ?_
  refine lv_iadd hx hb dL_law_1112 ?_
  refine va_sld hx hb hX hbl hbA hS (lx_v (k := 1) hi5 (by omega) hL) dL_law_1113 ?_
  rw [← ez1]
  refine lv_aload_n hx hb dL_law_1114 rfl (lv_at hl 1 rfl) ?_
  refine lv_iload_n hx hb dL_law_1115 rfl (lv_at hl 0 rfl) ?_
  refine lv_iconst (v := nI 2) hx hb dL_law_1116 (by decide) ?_
  refine lv_iadd hx hb dL_law_1117 ?_
  refine va_sld hx hb hX hbl hbA hS (lx_v (k := 2) hi5 (by omega) hL) dL_law_1118 ?_
  rw [← ez2]
  refine lv_aload_n hx hb dL_law_1119 rfl (lv_at hl 1 rfl) ?_
  refine lv_iload_n hx hb dL_law_1120 rfl (lv_at hl 0 rfl) ?_
  refine lv_iconst (v := nI 3) hx hb dL_law_1121 (by decide) ?_
  refine lv_iadd hx hb dL_law_1122 ?_
  refine va_sld hx hb hX hbl hbA hS (lx_v (k := 3) hi5 (by omega) hL) dL_law_1123 ?_
  rw [← ez3]
  have hPc := hP.sub (ws' := wc_X7_drift cy qm (um 0) (um 1) (um 2) (um 3) (um 4) (um 5) (um 6) (um 7) (um 8) (um 9) (um 10) (um 11) (um 12) (nI pe) dp mb mr mh (nI tn) po be so va rd.2.2 wr he sp bc bm l1 l2 l3 torn (nf_a S) (nf_a N)) [71, 72, 73] rfl
  have hDc := hD.sub (ws' := wc_X7_drift cy qm (um 0) (um 1) (um 2) (um 3) (um 4) (um 5) (um 6) (um 7) (um 8) (um 9) (um 10) (um 11) (um 12) (nI pe) dp mb mr mh (nI tn) po be so va rd.2.2 wr he sp bc bm l1 l2 l3 torn (nf_a S) (nf_a N)) [71, 72, 73] (by decide +kernel) rfl
  refine cl_i (fun (u : Int32 × Int32 × (Nat → Int32)) => lw_W cy qx ux qm um torn now t2 wg0 wg1 wg2 wg3 seen k0 k1 iw0 iw1 is0 is1 (sf 0) (sf 1) (sf 2) (sf 3) tp rd row best (nI pe) dp mb mr mh (nI tn) po be so va rd.2.2 wr u.1 u.2.1 bc bm l1 l2 l3 torn (nf_a S) u.2.2 kp (nf_a Dr) tape row2 best2 heavy byk lan siz cel bef) (va_runV (As := [.int z1, .int z2, .int z3]) (rest := [.int r]) (C := RX7) ⟨hx, hb, hml, hown, hts⟩ (c_X7_drift l D cy H.size qm (um 0) (um 1) (um 2) (um 3) (um 4) (um 5) (um 6) (um 7) (um 8) (um 9) (um 10) (um 11) (um 12) (nI pe) dp mb mr mh (nI tn) po be so va rd.2.2 wr he sp bc bm l1 l2 l3 torn (nf_a S) (nf_a N) z1 z2 z3 (f := 5000) e2) ⟨callB_of 3 hts (wg_law k_1108) rfl rfl rfl (htw _ k_8) (htw _ k_1105) (by decide +kernel) ⟨by decide, by decide⟩, (htw _ k_1106), (htw _ k_1107)⟩ ⟨st_blind, va_recv hK.1 hPc (ci := 7) (q0 := 0) rfl rfl, fun U hU hW => st_pre hK hPc hDc hU hW⟩ rfl rfl hl.1 rfl (lv_room (Nat.le_of_ble_eq_true rfl)) dL_law_1124 ⟨by decide, by decide⟩) hP hD hS hA [71, 72, 73] [0, 1, 2, 3, 4, 5, 6, 7, 8, 9, 10, 11, 12, 13, 14, 15, 16, 17, 18, 19, 20, 21, 22, 23, 24, 25, 26, 27, 28, 29, 30, 31, 32, 33, 34, 35, 36, 37, 38, 39, 40, 41, 42, 43, 44, 45, 46, 47, 48, 49, 50, 51, 52, 53, 54, 55, 56, 57, 58, 59, 60, 61, 62, 63, 64, 65, 66, 67, 68, 69, 70, 74, 75, 76, 77, 78, 79, 80, 81, 82, 83, 84] [0, 1, 2, 3, 4, 5, 6, 7, 8, 9, 10, 11, 12, 13, 14, 15, 16, 17, 18, 19, 20, 21, 22, 23, 24, 25, 26, 27, 28, 29, 30, 31, 32, 33, 34, 35, 36, 37, 38, 39, 40, 41, 42, 43, 44, 45, 46, 47, 48, 49, 50, 51, 52, 53, 54, 55, 56, 57, 58, 59, 60, 61, 62, 63, 64, 65, 66, 67, 68, 69, 70, 82, 83, 84, 71, 72, 73, 74, 75, 76, 77, 78, 79, 80, 81] rfl rfl (by decide +kernel) (by decide +kernel) (by decide +kernel) (fun _ => rfl) (fun r0 u H locs hw hP hD hS => ?_)
  obtain ⟨rfl, rfl⟩ := hw
  have hP : va_P D vwCl (lw_W cy qx ux qm um torn now t2 wg0 wg1 wg2 wg3 seen k0 k1 iw0 iw1 is0 is1 (sf 0) (sf 1) (sf 2) (sf 3) tp rd row best (nI pe) dp mb mr mh (nI tn) po be so va rd.2.2 wr q.1 q.2.1 bc bm l1 l2 l3 torn (nf_a S) q.2.2 kp (nf_a Dr) tape row2 best2 heavy byk lan siz cel bef) H := hP
  have hD : va_D (fun q : Nat => s.heap.size ≤ q) (lw_W cy qx ux qm um torn now t2 wg0 wg1 wg2 wg3 seen k0 k1 iw0 iw1 is0 is1 (sf 0) (sf 1) (sf 2) (sf 3) tp rd row best (nI pe) dp mb mr mh (nI tn) po be so va rd.2.2 wr q.1 q.2.1 bc bm l1 l2 l3 torn (nf_a S) q.2.2 kp (nf_a Dr) tape row2 best2 heavy byk lan siz cel bef) := hD
  refine W.eq (g2 := F0 m 1127 ls [.int r, .int r]) rfl ?_
  refine lv_icmp_eq (tgt := 1353) hx hb dL_law_1127 (by decide) (fun _ => ?_) (fun cc => absurd rfl cc)
  have hR2 : lw_R cy qx ux qm um (lw_W cy qx ux qm um torn now t2 wg0 wg1 wg2 wg3 seen k0 k1 iw0 iw1 is0 is1 (sf 0) (sf 1) (sf 2) (sf 3) tp rd row best (nI pe) dp mb mr mh (nI tn) po be so va rd.2.2 wr q.1 q.2.1 bc bm l1 l2 l3 torn (nf_a S) q.2.2 kp (nf_a Dr) tape row2 best2 heavy byk lan siz cel bef) := lw_mk (sf := sf) rfl rfl h1 hi0 hi1 hs4 htp
  exact lx_T C0 kk _ _ _ _ hR2 hP hD hS (lv_sub hl [0, 1, 2, 3] rfl)
set_option maxHeartbeats 8000000 in
set_option maxRecDepth 100000 in
theorem lp_32 {p : Program} {l : Launch} {e : Env} {s : State} {m : MethodId} {below : List Frame} {meth : Method} {c : Code} {b L : Nat} {xs : Nat → Int32} {D : va_G} {cy : Nat → ClassId} {X : (Nat → Nat) × (Nat → Nat)} {qx qm : Nat} {ux um : Nat → Nat} {i : Nat} (C0 : lx_C p s m meth c b L xs D cy X) (hi5 : i + 5 ≤ L) (kk : lx_G p l e s m below meth c b D cy qx ux qm um (nI i + 5) 18) : lx_G p l e s m below meth c b D cy qx ux qm um (nI i) 1132 := by
  intro ws H locs ls hR hP hD hS hl
  obtain ⟨⟨hx, hb, hr0, hml, hown, hts, hX, hbl, hlocks, hgv⟩, hL, hK, hE⟩ := id C0
  have htw := lx_h hts
  have hA : ∀ q : Nat, s.heap.size ≤ q → (fun q : Nat => s.heap.size ≤ q) q := fun _ h => h
  have hbA : ¬ (fun q : Nat => s.heap.size ≤ q) b := Nat.not_le.mpr hbl
  obtain ⟨pe, tn, S, N, Dr, torn, now, trial, wg0, wg1, wg2, wg3, seen, k0, k1, iw0, iw1, is0, is1, sf, tp, rd, row, best, dp, mb, mr, mh, po, be, so, va, wr, he, sp, bc, bm, l1, l2, l3, kp, tape, row2, best2, heavy, byk, lan, siz, cel, bef, rfl, h1, hi0, hi1, hs4, htp⟩ := hR
  obtain ⟨z1, ez1⟩ : ∃ z, z = xs (nI i + nI 1).toNatClampNeg := ⟨_, rfl⟩
  obtain ⟨r, k1', k0', w0', v0', w1', v1', kp', S2, e1, e2, g1, g2, g3⟩ := op_keep (f := 5000) h1 hi0 hi1 (by decide) z1
  refine lv_aload_n hx hb dL_law_1132 rfl (lv_at hl 2 rfl) ?_
  refine lv_aload_n hx hb dL_law_1133 rfl (lv_at hl 1 rfl) ?_
  refine lv_iload_n hx hb dL_law_1134 rfl (lv_at hl 0 rfl) ?_
  refine lv_iconst (v := nI 1) hx hb dL_law_1135 (by decide) ?_
  refine lv_iadd hx hb dL_law_1136 ?_
  refine va_sld hx hb hX hbl hbA hS (lx_v (k := 1) hi5 (by omega) hL) dL_law_1137 ?_
  rw [← ez1]
  have hPc := hP.sub (ws' := wc_X6_keep cy qx (ux 15) (ux 52) (ux 42) (ux 43) (ux 44) (ux 45) (ux 46) (ux 47) (ux 0) (ux 1) (ux 2) (ux 3) (ux 4) (ux 48) (ux 49) (ux 50) (ux 51) (ux 11) (ux 12) (ux 13) (ux 14) (ux 53) (ux 54) (ux 55) (ux 56) (ux 57) (ux 58) (ux 59) (ux 60) (ux 61) (ux 5) (ux 10) (ux 16) (ux 17) (ux 19) (ux 20) (ux 21) torn k1 k0 iw0 now is0 seen iw1 is1) [0, 16, 53, 43, 44, 45, 46, 47, 48, 1, 2, 3, 4, 5, 49, 50, 51, 52, 12, 13, 14, 15, 54, 55, 56, 57, 58, 59, 60, 61, 62] rfl
  have hDc := hD.sub (ws' := wc_X6_keep cy qx (ux 15) (ux 52) (ux 42) (ux 43) (ux 44) (ux 45) (ux 46) (ux 47) (ux 0) (ux 1) (ux 2) (ux 3) (ux 4) (ux 48) (ux 49) (ux 50) (ux 51) (ux 11) (ux 12) (ux 13) (ux 14) (ux 53) (ux 54) (ux 55) (ux 56) (ux 57) (ux 58) (ux 59) (ux 60) (ux 61) (ux 5) (ux 10) (ux 16) (ux 17) (ux 19) (ux 20) (ux 21) torn k1 k0 iw0 now is0 seen iw1 is1) [0, 16, 53, 43, 44, 45, 46, 47, 48, 1, 2, 3, 4, 5, 49, 50, 51, 52, 12, 13, 14, 15, 54, 55, 56, 57, 58, 59, 60, 61, 62] (by decide +kernel) rfl
  refine cl_i (fun (u : Int32 × Int32 × s_W × s_V × s_W × s_V) => lw_W cy qx ux qm um torn now trial wg0 wg1 wg2 wg3 seen u.2.1 u.1 u.2.2.1 u.2.2.2.2.1 u.2.2.2.1 u.2.2.2.2.2 (sf 0) (sf 1) (sf 2) (sf 3) tp rd row best (nI pe) dp mb mr mh (nI tn) po be so va rd.2.2 wr he sp bc bm l1 l2 l3 torn (nf_a S) (nf_a N) kp (nf_a Dr) tape row2 best2 heavy byk lan siz cel bef) (va_runV (As := [.int z1]) (rest := []) (C := RX6) ⟨hx, hb, hml, hown, hts⟩ (c_X6_keep l D cy H.size qx (ux 15) (ux 52) (ux 42) (ux 43) (ux 44) (ux 45) (ux 46) (ux 47) (ux 0) (ux 1) (ux 2) (ux 3) (ux 4) (ux 48) (ux 49) (ux 50) (ux 51) (ux 11) (ux 12) (ux 13) (ux 14) (ux 53) (ux 54) (ux 55) (ux 56) (ux 57) (ux 58) (ux 59) (ux 60) (ux 61) (ux 5) (ux 10) (ux 16) (ux 17) (ux 19) (ux 20) (ux 21) torn k1 k0 iw0 now is0 seen iw1 is1 z1 e1) ⟨callB_of 1 hts (wg_law k_639) rfl rfl rfl (htw _ k_1) (htw _ k_636) (by decide +kernel) ⟨by decide, by decide⟩, (htw _ k_637), (htw _ k_638)⟩ ⟨st_blind, va_recv hK.1 hPc (ci := 6) (q0 := 0) rfl rfl, fun U hU hW => st_pre hK hPc hDc hU hW⟩ rfl rfl hl.1 rfl (lv_room (Nat.le_of_ble_eq_true rfl)) dL_law_1138 ⟨by decide, by decide⟩) hP hD hS hA [0, 16, 53, 43, 44, 45, 46, 47, 48, 1, 2, 3, 4, 5, 49, 50, 51, 52, 12, 13, 14, 15, 54, 55, 56, 57, 58, 59, 60, 61, 62] [6, 7, 8, 9, 10, 11, 17, 18, 19, 20, 21, 22, 23, 24, 25, 26, 27, 28, 29, 30, 31, 32, 33, 34, 35, 36, 37, 38, 39, 40, 41, 42, 63, 64, 65, 66, 67, 68, 69, 70, 71, 72, 73, 74, 75, 76, 77, 78, 79, 80, 81, 82, 83, 84] [54, 63, 64, 65, 66, 67, 0, 1, 2, 3, 4, 5, 72, 73, 74, 75, 55, 6, 7, 8, 9, 10, 11, 12, 13, 14, 15, 16, 17, 18, 19, 20, 21, 22, 23, 24, 25, 26, 27, 28, 29, 30, 31, 57, 58, 59, 60, 61, 62, 68, 69, 70, 71, 56, 76, 77, 78, 79, 80, 81, 82, 83, 84, 32, 33, 34, 35, 36, 37, 38, 39, 40, 41, 42, 43, 44, 45, 46, 47, 48, 49, 50, 51, 52, 53] rfl rfl (by decide +kernel) (by decide +kernel) (by decide +kernel) (fun _ => rfl) (fun r0 u H locs hw hP hD hS => ?_)
  obtain ⟨rfl, rfl⟩ := hw
  have hP : va_P D vwCl (lw_W cy qx ux qm um torn now trial wg0 wg1 wg2 wg3 seen k0' k1' w0' w1' v0' v1' (sf 0) (sf 1) (sf 2) (sf 3) tp rd row best (nI pe) dp mb mr mh (nI tn) po be so va rd.2.2 wr he sp bc bm l1 l2 l3 torn (nf_a S) (nf_a N) kp (nf_a Dr) tape row2 best2 heavy byk lan siz cel bef) H := hP
  have hD : va_D (fun q : Nat => s.heap.size ≤ q) (lw_W cy qx ux qm um torn now trial wg0 wg1 wg2 wg3 seen k0' k1' w0' w1' v0' v1' (sf 0) (sf 1) (sf 2) (sf 3) tp rd row best (nI pe) dp mb mr mh (nI tn) po be so va rd.2.2 wr he sp bc bm l1 l2 l3 torn (nf_a S) (nf_a N) kp (nf_a Dr) tape row2 best2 heavy byk lan siz cel bef) := hD
  refine W.eq (g2 := F0 m 1141 ls [.int r]) rfl ?_
  refine lv_aload_n hx hb dL_law_1141 rfl (lv_at hl 3 rfl) ?_
  refine lv_aload_n hx hb dL_law_1142 rfl (lv_at hl 1 rfl) ?_
  refine lv_iload_n hx hb dL_law_1143 rfl (lv_at hl 0 rfl) ?_
  refine lv_iconst (v := nI 1) hx hb dL_law_1144 (by decide) ?_
  refine lv_iadd hx hb dL_law_1145 ?_
  refine va_sld hx hb hX hbl hbA hS (lx_v (k := 1) hi5 (by omega) hL) dL_law_1146 ?_
  rw [← ez1]
  have hPc := hP.sub (ws' := wc_X7_keep cy qm (um 2) (um 0) (um 1) (um 3) (um 4) (um 5) (um 6) (um 7) (um 8) (um 9) (um 10) (um 11) (um 12) (nI pe) dp mb mr mh (nI tn) po be so va rd.2.2 wr he sp bc bm l1 l2 l3 torn kp (nf_a S)) [71, 74, 72] rfl
  have hDc := hD.sub (ws' := wc_X7_keep cy qm (um 2) (um 0) (um 1) (um 3) (um 4) (um 5) (um 6) (um 7) (um 8) (um 9) (um 10) (um 11) (um 12) (nI pe) dp mb mr mh (nI tn) po be so va rd.2.2 wr he sp bc bm l1 l2 l3 torn kp (nf_a S)) [71, 74, 72] (by decide +kernel) rfl
  refine cl_i (fun (u : (Nat → Int32) × (Nat → Int32)) => lw_W cy qx ux qm um torn now trial wg0 wg1 wg2 wg3 seen k0' k1' w0' w1' v0' v1' (sf 0) (sf 1) (sf 2) (sf 3) tp rd row best (nI pe) dp mb mr mh (nI tn) po be so va rd.2.2 wr he sp bc bm l1 l2 l3 torn u.2 (nf_a N) u.1 (nf_a Dr) tape row2 best2 heavy byk lan siz cel bef) (va_runV (As := [.int z1]) (rest := [.int r]) (C := RX7) ⟨hx, hb, hml, hown, hts⟩ (c_X7_keep l D cy H.size qm (um 2) (um 0) (um 1) (um 3) (um 4) (um 5) (um 6) (um 7) (um 8) (um 9) (um 10) (um 11) (um 12) (nI pe) dp mb mr mh (nI tn) po be so va rd.2.2 wr he sp bc bm l1 l2 l3 torn kp (nf_a S) z1 (f := 5000) e2) ⟨callB_of 1 hts (wg_law k_1113) rfl rfl rfl (htw _ k_8) (htw _ k_1110) (by decide +kernel) ⟨by decide, by decide⟩, (htw _ k_1111), (htw _ k_1112)⟩ ⟨st_blind, va_recv hK.1 hPc (ci := 7) (q0 := 0) rfl rfl, fun U hU hW => st_pre hK hPc hDc hU hW⟩ rfl rfl hl.1 rfl (lv_room (Nat.le_of_ble_eq_true rfl)) dL_law_1147 ⟨by decide, by decide⟩) hP hD hS hA [71, 74, 72] [0, 1, 2, 3, 4, 5, 6, 7, 8, 9, 10, 11, 12, 13, 14, 15, 16, 17, 18, 19, 20, 21, 22, 23, 24, 25, 26, 27, 28, 29, 30, 31, 32, 33, 34, 35, 36, 37, 38, 39, 40, 41, 42, 43, 44, 45, 46, 47, 48, 49, 50, 51, 52, 53, 54, 55, 56, 57, 58, 59, 60, 61, 62, 63, 64, 65, 66, 67, 68, 69, 70, 73, 75, 76, 77, 78, 79, 80, 81, 82, 83, 84] [0, 1, 2, 3, 4, 5, 6, 7, 8, 9, 10, 11, 12, 13, 14, 15, 16, 17, 18, 19, 20, 21, 22, 23, 24, 25, 26, 27, 28, 29, 30, 31, 32, 33, 34, 35, 36, 37, 38, 39, 40, 41, 42, 43, 44, 45, 46, 47, 48, 49, 50, 51, 52, 53, 54, 55, 56, 57, 58, 59, 60, 61, 62, 63, 64, 65, 66, 67, 68, 69, 70, 82, 84, 71, 83, 72, 73, 74, 75, 76, 77, 78, 79, 80, 81] rfl rfl (by decide +kernel) (by decide +kernel) (by decide +kernel) (fun _ => rfl) (fun r0 u H locs hw hP hD hS => ?_)
  obtain ⟨rfl, rfl⟩ := hw
  have hP : va_P D vwCl (lw_W cy qx ux qm um torn now trial wg0 wg1 wg2 wg3 seen k0' k1' w0' w1' v0' v1' (sf 0) (sf 1) (sf 2) (sf 3) tp rd row best (nI pe) dp mb mr mh (nI tn) po be so va rd.2.2 wr he sp bc bm l1 l2 l3 torn (nf_a S2) (nf_a N) kp' (nf_a Dr) tape row2 best2 heavy byk lan siz cel bef) H := hP
  have hD : va_D (fun q : Nat => s.heap.size ≤ q) (lw_W cy qx ux qm um torn now trial wg0 wg1 wg2 wg3 seen k0' k1' w0' w1' v0' v1' (sf 0) (sf 1) (sf 2) (sf 3) tp rd row best (nI pe) dp mb mr mh (nI tn) po be so va rd.2.2 wr he sp bc bm l1 l2 l3 torn (nf_a S2) (nf_a N) kp' (nf_a Dr) tape row2 best2 heavy byk lan siz cel bef) := hD
  refine W.eq (g2 := F0 m 1150 ls [.int r, .int r]) rfl ?_
  refine lv_icmp_eq (tgt := 1353) hx hb dL_law_1150 (by decide) (fun _ => ?_) (fun cc => absurd rfl cc)
  have hR2 : lw_R cy qx ux qm um (lw_W cy qx ux qm um torn now trial wg0 wg1 wg2 wg3 seen k0' k1' w0' w1' v0' v1' (sf 0) (sf 1) (sf 2) (sf 3) tp rd row best (nI pe) dp mb mr mh (nI tn) po be so va rd.2.2 wr he sp bc bm l1 l2 l3 torn (nf_a S2) (nf_a N) kp' (nf_a Dr) tape row2 best2 heavy byk lan siz cel bef) := lw_mk (sf := sf) rfl rfl g1 g2 g3 hs4 htp
  exact lx_T C0 kk _ _ _ _ hR2 hP hD hS (lv_sub hl [0, 1, 2, 3] rfl)
set_option maxHeartbeats 8000000 in
set_option maxRecDepth 100000 in
theorem lp_33 {p : Program} {l : Launch} {e : Env} {s : State} {m : MethodId} {below : List Frame} {meth : Method} {c : Code} {b L : Nat} {xs : Nat → Int32} {D : va_G} {cy : Nat → ClassId} {X : (Nat → Nat) × (Nat → Nat)} {qx qm : Nat} {ux um : Nat → Nat} {i : Nat} (C0 : lx_C p s m meth c b L xs D cy X) (hi5 : i + 5 ≤ L) (kk : lx_G p l e s m below meth c b D cy qx ux qm um (nI i + 5) 18) : lx_G p l e s m below meth c b D cy qx ux qm um (nI i) 1155 := by
  intro ws H locs ls hR hP hD hS hl
  obtain ⟨⟨hx, hb, hr0, hml, hown, hts, hX, hbl, hlocks, hgv⟩, hL, hK, hE⟩ := id C0
  have htw := lx_h hts
  have hA : ∀ q : Nat, s.heap.size ≤ q → (fun q : Nat => s.heap.size ≤ q) q := fun _ h => h
  have hbA : ¬ (fun q : Nat => s.heap.size ≤ q) b := Nat.not_le.mpr hbl
  obtain ⟨pe, tn, S, N, Dr, torn, now, trial, wg0, wg1, wg2, wg3, seen, k0, k1, iw0, iw1, is0, is1, sf, tp, rd, row, best, dp, mb, mr, mh, po, be, so, va, wr, he, sp, bc, bm, l1, l2, l3, kp, tape, row2, best2, heavy, byk, lan, siz, cel, bef, rfl, h1, hi0, hi1, hs4, htp⟩ := hR
  obtain ⟨z1, ez1⟩ : ∃ z, z = xs (nI i + nI 1).toNatClampNeg := ⟨_, rfl⟩
  obtain ⟨r, w', v', S2, e1, e2, g1, o46⟩ := op_back (f := 5000) h1 hi0 hi1 (by decide) z1
  refine lv_aload_n hx hb dL_law_1155 rfl (lv_at hl 2 rfl) ?_
  refine lv_aload_n hx hb dL_law_1156 rfl (lv_at hl 1 rfl) ?_
  refine lv_iload_n hx hb dL_law_1157 rfl (lv_at hl 0 rfl) ?_
  refine lv_iconst (v := nI 1) hx hb dL_law_1158 (by decide) ?_
  refine lv_iadd hx hb dL_law_1159 ?_
  refine va_sld hx hb hX hbl hbA hS (lx_v (k := 1) hi5 (by omega) hL) dL_law_1160 ?_
  rw [← ez1]
  have hPc := hP.sub (ws' := wc_X6_back cy qx (ux 15) (ux 52) (ux 42) (ux 0) (ux 1) (ux 2) (ux 3) (ux 4) (ux 43) (ux 44) (ux 45) (ux 46) (ux 47) (ux 11) (ux 12) (ux 13) (ux 14) (ux 48) (ux 49) (ux 50) (ux 51) (ux 53) (ux 54) (ux 55) (ux 56) (ux 57) (ux 58) (ux 59) (ux 60) (ux 61) (ux 5) (ux 10) (ux 16) (ux 17) (ux 19) (ux 20) (ux 21) torn k1 k0 now iw0 seen is0 iw1 is1) [0, 16, 53, 43, 1, 2, 3, 4, 5, 44, 45, 46, 47, 48, 12, 13, 14, 15, 49, 50, 51, 52, 54, 55, 56, 57, 58, 59, 60, 61, 62] rfl
  have hDc := hD.sub (ws' := wc_X6_back cy qx (ux 15) (ux 52) (ux 42) (ux 0) (ux 1) (ux 2) (ux 3) (ux 4) (ux 43) (ux 44) (ux 45) (ux 46) (ux 47) (ux 11) (ux 12) (ux 13) (ux 14) (ux 48) (ux 49) (ux 50) (ux 51) (ux 53) (ux 54) (ux 55) (ux 56) (ux 57) (ux 58) (ux 59) (ux 60) (ux 61) (ux 5) (ux 10) (ux 16) (ux 17) (ux 19) (ux 20) (ux 21) torn k1 k0 now iw0 seen is0 iw1 is1) [0, 16, 53, 43, 1, 2, 3, 4, 5, 44, 45, 46, 47, 48, 12, 13, 14, 15, 49, 50, 51, 52, 54, 55, 56, 57, 58, 59, 60, 61, 62] (by decide +kernel) rfl
  refine cl_i (fun (u : s_W × s_V) => lw_W cy qx ux qm um torn u.1 trial wg0 wg1 wg2 wg3 u.2 k0 k1 iw0 iw1 is0 is1 (sf 0) (sf 1) (sf 2) (sf 3) tp rd row best (nI pe) dp mb mr mh (nI tn) po be so va rd.2.2 wr he sp bc bm l1 l2 l3 torn (nf_a S) (nf_a N) kp (nf_a Dr) tape row2 best2 heavy byk lan siz cel bef) (va_runV (As := [.int z1]) (rest := []) (C := RX6) ⟨hx, hb, hml, hown, hts⟩ (c_X6_back l D cy H.size qx (ux 15) (ux 52) (ux 42) (ux 0) (ux 1) (ux 2) (ux 3) (ux 4) (ux 43) (ux 44) (ux 45) (ux 46) (ux 47) (ux 11) (ux 12) (ux 13) (ux 14) (ux 48) (ux 49) (ux 50) (ux 51) (ux 53) (ux 54) (ux 55) (ux 56) (ux 57) (ux 58) (ux 59) (ux 60) (ux 61) (ux 5) (ux 10) (ux 16) (ux 17) (ux 19) (ux 20) (ux 21) torn k1 k0 now iw0 seen is0 iw1 is1 z1 e1) ⟨callB_of 1 hts (wg_law k_648) rfl rfl rfl (htw _ k_1) (htw _ k_645) (by decide +kernel) ⟨by decide, by decide⟩, (htw _ k_646), (htw _ k_647)⟩ ⟨st_blind, va_recv hK.1 hPc (ci := 6) (q0 := 0) rfl rfl, fun U hU hW => st_pre hK hPc hDc hU hW⟩ rfl rfl hl.1 rfl (lv_room (Nat.le_of_ble_eq_true rfl)) dL_law_1161 ⟨by decide, by decide⟩) hP hD hS hA [0, 16, 53, 43, 1, 2, 3, 4, 5, 44, 45, 46, 47, 48, 12, 13, 14, 15, 49, 50, 51, 52, 54, 55, 56, 57, 58, 59, 60, 61, 62] [6, 7, 8, 9, 10, 11, 17, 18, 19, 20, 21, 22, 23, 24, 25, 26, 27, 28, 29, 30, 31, 32, 33, 34, 35, 36, 37, 38, 39, 40, 41, 42, 63, 64, 65, 66, 67, 68, 69, 70, 71, 72, 73, 74, 75, 76, 77, 78, 79, 80, 81, 82, 83, 84] [54, 58, 59, 60, 61, 62, 0, 1, 2, 3, 4, 5, 68, 69, 70, 71, 55, 6, 7, 8, 9, 10, 11, 12, 13, 14, 15, 16, 17, 18, 19, 20, 21, 22, 23, 24, 25, 26, 27, 28, 29, 30, 31, 57, 63, 64, 65, 66, 67, 72, 73, 74, 75, 56, 76, 77, 78, 79, 80, 81, 82, 83, 84, 32, 33, 34, 35, 36, 37, 38, 39, 40, 41, 42, 43, 44, 45, 46, 47, 48, 49, 50, 51, 52, 53] rfl rfl (by decide +kernel) (by decide +kernel) (by decide +kernel) (fun _ => rfl) (fun r0 u H locs hw hP hD hS => ?_)
  obtain ⟨rfl, rfl⟩ := hw
  have hP : va_P D vwCl (lw_W cy qx ux qm um torn w' trial wg0 wg1 wg2 wg3 v' k0 k1 iw0 iw1 is0 is1 (sf 0) (sf 1) (sf 2) (sf 3) tp rd row best (nI pe) dp mb mr mh (nI tn) po be so va rd.2.2 wr he sp bc bm l1 l2 l3 torn (nf_a S) (nf_a N) kp (nf_a Dr) tape row2 best2 heavy byk lan siz cel bef) H := hP
  have hD : va_D (fun q : Nat => s.heap.size ≤ q) (lw_W cy qx ux qm um torn w' trial wg0 wg1 wg2 wg3 v' k0 k1 iw0 iw1 is0 is1 (sf 0) (sf 1) (sf 2) (sf 3) tp rd row best (nI pe) dp mb mr mh (nI tn) po be so va rd.2.2 wr he sp bc bm l1 l2 l3 torn (nf_a S) (nf_a N) kp (nf_a Dr) tape row2 best2 heavy byk lan siz cel bef) := hD
  refine W.eq (g2 := F0 m 1164 ls [.int r]) rfl ?_
  refine lv_aload_n hx hb dL_law_1164 rfl (lv_at hl 3 rfl) ?_
  refine lv_aload_n hx hb dL_law_1165 rfl (lv_at hl 1 rfl) ?_
  refine lv_iload_n hx hb dL_law_1166 rfl (lv_at hl 0 rfl) ?_
  refine lv_iconst (v := nI 1) hx hb dL_law_1167 (by decide) ?_
  refine lv_iadd hx hb dL_law_1168 ?_
  refine va_sld hx hb hX hbl hbA hS (lx_v (k := 1) hi5 (by omega) hL) dL_law_1169 ?_
  rw [← ez1]
  have hPc := hP.sub (ws' := wc_X7_back cy qm (um 2) (um 0) (um 1) (um 3) (um 4) (um 5) (um 6) (um 7) (um 8) (um 9) (um 10) (um 11) (um 12) (nI pe) dp mb mr mh (nI tn) po be so va rd.2.2 wr he sp bc bm l1 l2 l3 torn kp (nf_a S)) [71, 74, 72] rfl
  have hDc := hD.sub (ws' := wc_X7_back cy qm (um 2) (um 0) (um 1) (um 3) (um 4) (um 5) (um 6) (um 7) (um 8) (um 9) (um 10) (um 11) (um 12) (nI pe) dp mb mr mh (nI tn) po be so va rd.2.2 wr he sp bc bm l1 l2 l3 torn kp (nf_a S)) [71, 74, 72] (by decide +kernel) rfl
  refine cl_i (fun (u : (Nat → Int32)) => lw_W cy qx ux qm um torn w' trial wg0 wg1 wg2 wg3 v' k0 k1 iw0 iw1 is0 is1 (sf 0) (sf 1) (sf 2) (sf 3) tp rd row best (nI pe) dp mb mr mh (nI tn) po be so va rd.2.2 wr he sp bc bm l1 l2 l3 torn u (nf_a N) kp (nf_a Dr) tape row2 best2 heavy byk lan siz cel bef) (va_runV (As := [.int z1]) (rest := [.int r]) (C := RX7) ⟨hx, hb, hml, hown, hts⟩ (c_X7_back l D cy H.size qm (um 2) (um 0) (um 1) (um 3) (um 4) (um 5) (um 6) (um 7) (um 8) (um 9) (um 10) (um 11) (um 12) (nI pe) dp mb mr mh (nI tn) po be so va rd.2.2 wr he sp bc bm l1 l2 l3 torn kp (nf_a S) z1 (f := 5000) e2) ⟨callB_of 1 hts (wg_law k_1121) rfl rfl rfl (htw _ k_8) (htw _ k_1118) (by decide +kernel) ⟨by decide, by decide⟩, (htw _ k_1119), (htw _ k_1120)⟩ ⟨st_blind, va_recv hK.1 hPc (ci := 7) (q0 := 0) rfl rfl, fun U hU hW => st_pre hK hPc hDc hU hW⟩ rfl rfl hl.1 rfl (lv_room (Nat.le_of_ble_eq_true rfl)) dL_law_1170 ⟨by decide, by decide⟩) hP hD hS hA [71, 74, 72] [0, 1, 2, 3, 4, 5, 6, 7, 8, 9, 10, 11, 12, 13, 14, 15, 16, 17, 18, 19, 20, 21, 22, 23, 24, 25, 26, 27, 28, 29, 30, 31, 32, 33, 34, 35, 36, 37, 38, 39, 40, 41, 42, 43, 44, 45, 46, 47, 48, 49, 50, 51, 52, 53, 54, 55, 56, 57, 58, 59, 60, 61, 62, 63, 64, 65, 66, 67, 68, 69, 70, 73, 75, 76, 77, 78, 79, 80, 81, 82, 83, 84] [0, 1, 2, 3, 4, 5, 6, 7, 8, 9, 10, 11, 12, 13, 14, 15, 16, 17, 18, 19, 20, 21, 22, 23, 24, 25, 26, 27, 28, 29, 30, 31, 32, 33, 34, 35, 36, 37, 38, 39, 40, 41, 42, 43, 44, 45, 46, 47, 48, 49, 50, 51, 52, 53, 54, 55, 56, 57, 58, 59, 60, 61, 62, 63, 64, 65, 66, 67, 68, 69, 70, 82, 84, 71, 83, 72, 73, 74, 75, 76, 77, 78, 79, 80, 81] rfl rfl (by decide +kernel) (by decide +kernel) (by decide +kernel) (fun _ => rfl) (fun r0 u H locs hw hP hD hS => ?_)
  obtain ⟨rfl, rfl⟩ := hw
  have hP : va_P D vwCl (lw_W cy qx ux qm um torn w' trial wg0 wg1 wg2 wg3 v' k0 k1 iw0 iw1 is0 is1 (sf 0) (sf 1) (sf 2) (sf 3) tp rd row best (nI pe) dp mb mr mh (nI tn) po be so va rd.2.2 wr he sp bc bm l1 l2 l3 torn (nf_a S2) (nf_a N) kp (nf_a Dr) tape row2 best2 heavy byk lan siz cel bef) H := hP
  have hD : va_D (fun q : Nat => s.heap.size ≤ q) (lw_W cy qx ux qm um torn w' trial wg0 wg1 wg2 wg3 v' k0 k1 iw0 iw1 is0 is1 (sf 0) (sf 1) (sf 2) (sf 3) tp rd row best (nI pe) dp mb mr mh (nI tn) po be so va rd.2.2 wr he sp bc bm l1 l2 l3 torn (nf_a S2) (nf_a N) kp (nf_a Dr) tape row2 best2 heavy byk lan siz cel bef) := hD
  refine W.eq (g2 := F0 m 1173 ls [.int r, .int r]) rfl ?_
  refine lv_icmp_eq (tgt := 1353) hx hb dL_law_1173 (by decide) (fun _ => ?_) (fun cc => absurd rfl cc)
  have hR2 : lw_R cy qx ux qm um (lw_W cy qx ux qm um torn w' trial wg0 wg1 wg2 wg3 v' k0 k1 iw0 iw1 is0 is1 (sf 0) (sf 1) (sf 2) (sf 3) tp rd row best (nI pe) dp mb mr mh (nI tn) po be so va rd.2.2 wr he sp bc bm l1 l2 l3 torn (nf_a S2) (nf_a N) kp (nf_a Dr) tape row2 best2 heavy byk lan siz cel bef) := lw_mk (sf := sf) rfl rfl g1 (im_cg (fun i _ _ => o46 i (by omega)) hi0) (im_cg (fun i _ _ => o46 i (by omega)) hi1) hs4 htp
  exact lx_T C0 kk _ _ _ _ hR2 hP hD hS (lv_sub hl [0, 1, 2, 3] rfl)
set_option maxHeartbeats 8000000 in
set_option maxRecDepth 100000 in
theorem lp_34 {p : Program} {l : Launch} {e : Env} {s : State} {m : MethodId} {below : List Frame} {meth : Method} {c : Code} {b L : Nat} {xs : Nat → Int32} {D : va_G} {cy : Nat → ClassId} {X : (Nat → Nat) × (Nat → Nat)} {qx qm : Nat} {ux um : Nat → Nat} {i : Nat} (C0 : lx_C p s m meth c b L xs D cy X) (hi5 : i + 5 ≤ L) (kk : lx_G p l e s m below meth c b D cy qx ux qm um (nI i + 5) 18) : lx_G p l e s m below meth c b D cy qx ux qm um (nI i) 1178 := by
  intro ws H locs ls hR hP hD hS hl
  obtain ⟨⟨hx, hb, hr0, hml, hown, hts, hX, hbl, hlocks, hgv⟩, hL, hK, hE⟩ := id C0
  have htw := lx_h hts
  have hA : ∀ q : Nat, s.heap.size ≤ q → (fun q : Nat => s.heap.size ≤ q) q := fun _ h => h
  have hbA : ¬ (fun q : Nat => s.heap.size ≤ q) b := Nat.not_le.mpr hbl
  obtain ⟨pe, tn, S, N, Dr, torn, now, trial, wg0, wg1, wg2, wg3, seen, k0, k1, iw0, iw1, is0, is1, sf, tp, rd, row, best, dp, mb, mr, mh, po, be, so, va, wr, he, sp, bc, bm, l1, l2, l3, kp, tape, row2, best2, heavy, byk, lan, siz, cel, bef, rfl, h1, hi0, hi1, hs4, htp⟩ := hR
  obtain ⟨z1, ez1⟩ : ∃ z, z = xs (nI i + nI 1).toNatClampNeg := ⟨_, rfl⟩
  obtain ⟨z2, ez2⟩ : ∃ z, z = xs (nI i + nI 2).toNatClampNeg := ⟨_, rfl⟩
  obtain ⟨z3, ez3⟩ : ∃ z, z = xs (nI i + nI 3).toNatClampNeg := ⟨_, rfl⟩
  obtain ⟨r, sf2, L2, Z2, C2, e1, e2, g1⟩ := op_sheet (f := 5000) hs4 (by decide) z1 z2 z3
  refine lv_aload_n hx hb dL_law_1178 rfl (lv_at hl 2 rfl) ?_
  refine lv_aload_n hx hb dL_law_1179 rfl (lv_at hl 1 rfl) ?_
  refine lv_iload_n hx hb dL_law_1180 rfl (lv_at hl 0 rfl) ?_
  refine lv_iconst (v := nI 1) hx hb dL_law_1181 (by decide) ?_
  refine lv_iadd hx hb dL_law_1182 ?_
  refine va_sld hx hb hX hbl hbA hS (lx_v (k := 1) hi5 (by omega) hL) dL_law_1183 ?_
  rw [← ez1]
  refine lv_aload_n hx hb dL_law_1184 rfl (lv_at hl 1 rfl) ?_
  refine lv_iload_n hx hb dL_law_1185 rfl (lv_at hl 0 rfl) ?_
  refine lv_iconst (v := nI 2) hx hb dL_law_1186 (by decide) ?_
  refine lv_iadd hx hb dL_law_1187 ?_
  refine va_sld hx hb hX hbl hbA hS (lx_v (k := 2) hi5 (by omega) hL) dL_law_1188 ?_
  rw [← ez2]
  refine lv_aload_n hx hb dL_law_1189 rfl (lv_at hl 1 rfl) ?_
  refine lv_iload_n hx hb dL_law_1190 rfl (lv_at hl 0 rfl) ?_
  refine lv_iconst (v := nI 3) hx hb dL_law_1191 (by decide) ?_
  refine lv_iadd hx hb dL_law_1192 ?_
  refine va_sld hx hb hX hbl hbA hS (lx_v (k := 3) hi5 (by omega) hL) dL_law_1193 ?_
  rw [← ez3]
  have hPc := hP.sub (ws' := wc_X6_sheet cy qx (ux 16) (ux 68) (ux 69) (ux 66) (ux 67) (ux 64) (ux 65) (ux 62) (ux 63) (ux 0) (ux 5) (ux 10) (ux 11) (ux 15) (ux 17) (ux 19) (ux 20) (ux 21) torn (sf 3) (sf 2) (sf 1) (sf 0)) [0, 17, 69, 70, 67, 68, 65, 66, 63, 64] rfl
  have hDc := hD.sub (ws' := wc_X6_sheet cy qx (ux 16) (ux 68) (ux 69) (ux 66) (ux 67) (ux 64) (ux 65) (ux 62) (ux 63) (ux 0) (ux 5) (ux 10) (ux 11) (ux 15) (ux 17) (ux 19) (ux 20) (ux 21) torn (sf 3) (sf 2) (sf 1) (sf 0)) [0, 17, 69, 70, 67, 68, 65, 66, 63, 64] (by decide +kernel) rfl
  refine cl_i (fun (u : s_S × s_S × s_S × s_S) => lw_W cy qx ux qm um torn now trial wg0 wg1 wg2 wg3 seen k0 k1 iw0 iw1 is0 is1 u.2.2.2 u.2.2.1 u.2.1 u.1 tp rd row best (nI pe) dp mb mr mh (nI tn) po be so va rd.2.2 wr he sp bc bm l1 l2 l3 torn (nf_a S) (nf_a N) kp (nf_a Dr) tape row2 best2 heavy byk lan siz cel bef) (va_runV (As := [.int z1, .int z2, .int z3]) (rest := []) (C := RX6) ⟨hx, hb, hml, hown, hts⟩ (c_X6_sheet l D cy H.size qx (ux 16) (ux 68) (ux 69) (ux 66) (ux 67) (ux 64) (ux 65) (ux 62) (ux 63) (ux 0) (ux 5) (ux 10) (ux 11) (ux 15) (ux 17) (ux 19) (ux 20) (ux 21) torn (sf 3) (sf 2) (sf 1) (sf 0) z1 z2 z3 (f := 5000) e1) ⟨callB_of 3 hts (wg_law k_652) rfl rfl rfl (htw _ k_1) (htw _ k_649) (by decide +kernel) ⟨by decide, by decide⟩, (htw _ k_650), (htw _ k_651)⟩ ⟨st_blind, va_recv hK.1 hPc (ci := 6) (q0 := 0) rfl rfl, fun U hU hW => st_pre hK hPc hDc hU hW⟩ rfl rfl hl.1 rfl (lv_room (Nat.le_of_ble_eq_true rfl)) dL_law_1194 ⟨by decide, by decide⟩) hP hD hS hA [0, 17, 69, 70, 67, 68, 65, 66, 63, 64] [1, 2, 3, 4, 5, 6, 7, 8, 9, 10, 11, 12, 13, 14, 15, 16, 18, 19, 20, 21, 22, 23, 24, 25, 26, 27, 28, 29, 30, 31, 32, 33, 34, 35, 36, 37, 38, 39, 40, 41, 42, 43, 44, 45, 46, 47, 48, 49, 50, 51, 52, 53, 54, 55, 56, 57, 58, 59, 60, 61, 62, 71, 72, 73, 74, 75, 76, 77, 78, 79, 80, 81, 82, 83, 84] [75, 0, 1, 2, 3, 4, 5, 6, 7, 8, 9, 10, 11, 12, 13, 14, 15, 76, 16, 17, 18, 19, 20, 21, 22, 23, 24, 25, 26, 27, 28, 29, 30, 31, 32, 33, 34, 35, 36, 37, 38, 39, 40, 41, 42, 43, 44, 45, 46, 47, 48, 49, 50, 51, 52, 53, 54, 55, 56, 57, 58, 59, 60, 83, 84, 81, 82, 79, 80, 77, 78, 61, 62, 63, 64, 65, 66, 67, 68, 69, 70, 71, 72, 73, 74] rfl rfl (by decide +kernel) (by decide +kernel) (by decide +kernel) (fun _ => rfl) (fun r0 u H locs hw hP hD hS => ?_)
  obtain ⟨rfl, rfl⟩ := hw
  have hP : va_P D vwCl (lw_W cy qx ux qm um torn now trial wg0 wg1 wg2 wg3 seen k0 k1 iw0 iw1 is0 is1 (sf2 0) (sf2 1) (sf2 2) (sf2 3) tp rd row best (nI pe) dp mb mr mh (nI tn) po be so va rd.2.2 wr he sp bc bm l1 l2 l3 torn (nf_a S) (nf_a N) kp (nf_a Dr) tape row2 best2 heavy byk lan siz cel bef) H := hP
  have hD : va_D (fun q : Nat => s.heap.size ≤ q) (lw_W cy qx ux qm um torn now trial wg0 wg1 wg2 wg3 seen k0 k1 iw0 iw1 is0 is1 (sf2 0) (sf2 1) (sf2 2) (sf2 3) tp rd row best (nI pe) dp mb mr mh (nI tn) po be so va rd.2.2 wr he sp bc bm l1 l2 l3 torn (nf_a S) (nf_a N) kp (nf_a Dr) tape row2 best2 heavy byk lan siz cel bef) := hD
  refine W.eq (g2 := F0 m 1197 ls [.int r]) rfl ?_
  refine lv_aload_n hx hb dL_law_1197 rfl (lv_at hl 3 rfl) ?_
  refine lv_aload_n hx hb dL_law_1198 rfl (lv_at hl 1 rfl) ?_
  refine lv_iload_n hx hb dL_law_1199 rfl (lv_at hl 0 rfl) ?_
  refine lv_iconst (v := nI 1) hx hb dL_law_1200 (by decide) ?_
  refine lv_iadd hx hb dL_law_1201 ?_
  refine va_sld hx hb hX hbl hbA hS (lx_v (k := 1) hi5 (by omega) hL) dL_law_1202 ?_
  rw [← ez1]
  refine lv_aload_n hx hb dL_law_1203 rfl (lv_at hl 1 rfl) ?_
  refine lv_iload_n hx hb dL_law_1204 rfl (lv_at hl 0 rfl) ?_
  refine lv_iconst (v := nI 2) hx hb dL_law_1205 (by decide) ?_
  refine lv_iadd hx hb dL_law_1206 ?_
  refine va_sld hx hb hX hbl hbA hS (lx_v (k := 2) hi5 (by omega) hL) dL_law_1207 ?_
  rw [← ez2]
  refine lv_aload_n hx hb dL_law_1208 rfl (lv_at hl 1 rfl) ?_
  refine lv_iload_n hx hb dL_law_1209 rfl (lv_at hl 0 rfl) ?_
  refine lv_iconst (v := nI 3) hx hb dL_law_1210 (by decide) ?_
  refine lv_iadd hx hb dL_law_1211 ?_
  refine va_sld hx hb hX hbl hbA hS (lx_v (k := 3) hi5 (by omega) hL) dL_law_1212 ?_
  rw [← ez3]
  have hPc := hP.sub (ws' := wc_X7_sheet cy qm (um 9) (um 10) (um 11) (um 0) (um 1) (um 2) (um 3) (um 4) (um 5) (um 6) (um 7) (um 8) (um 12) (nI pe) dp mb mr mh (nI tn) po be so va rd.2.2 wr he sp bc bm l1 l2 l3 torn lan siz cel) [71, 81, 82, 83] rfl
  have hDc := hD.sub (ws' := wc_X7_sheet cy qm (um 9) (um 10) (um 11) (um 0) (um 1) (um 2) (um 3) (um 4) (um 5) (um 6) (um 7) (um 8) (um 12) (nI pe) dp mb mr mh (nI tn) po be so va rd.2.2 wr he sp bc bm l1 l2 l3 torn lan siz cel) [71, 81, 82, 83] (by decide +kernel) rfl
  refine cl_i (fun (u : (Nat → Int32) × (Nat → Int32) × (Nat → Int32)) => lw_W cy qx ux qm um torn now trial wg0 wg1 wg2 wg3 seen k0 k1 iw0 iw1 is0 is1 (sf2 0) (sf2 1) (sf2 2) (sf2 3) tp rd row best (nI pe) dp mb mr mh (nI tn) po be so va rd.2.2 wr he sp bc bm l1 l2 l3 torn (nf_a S) (nf_a N) kp (nf_a Dr) tape row2 best2 heavy byk u.1 u.2.1 u.2.2 bef) (va_runV (As := [.int z1, .int z2, .int z3]) (rest := [.int r]) (C := RX7) ⟨hx, hb, hml, hown, hts⟩ (c_X7_sheet l D cy H.size qm (um 9) (um 10) (um 11) (um 0) (um 1) (um 2) (um 3) (um 4) (um 5) (um 6) (um 7) (um 8) (um 12) (nI pe) dp mb mr mh (nI tn) po be so va rd.2.2 wr he sp bc bm l1 l2 l3 torn lan siz cel z1 z2 z3 (f := 5000) e2) ⟨callB_of 3 hts (wg_law k_1125) rfl rfl rfl (htw _ k_8) (htw _ k_1122) (by decide +kernel) ⟨by decide, by decide⟩, (htw _ k_1123), (htw _ k_1124)⟩ ⟨st_blind, va_recv hK.1 hPc (ci := 7) (q0 := 0) rfl rfl, fun U hU hW => st_pre hK hPc hDc hU hW⟩ rfl rfl hl.1 rfl (lv_room (Nat.le_of_ble_eq_true rfl)) dL_law_1213 ⟨by decide, by decide⟩) hP hD hS hA [71, 81, 82, 83] [0, 1, 2, 3, 4, 5, 6, 7, 8, 9, 10, 11, 12, 13, 14, 15, 16, 17, 18, 19, 20, 21, 22, 23, 24, 25, 26, 27, 28, 29, 30, 31, 32, 33, 34, 35, 36, 37, 38, 39, 40, 41, 42, 43, 44, 45, 46, 47, 48, 49, 50, 51, 52, 53, 54, 55, 56, 57, 58, 59, 60, 61, 62, 63, 64, 65, 66, 67, 68, 69, 70, 72, 73, 74, 75, 76, 77, 78, 79, 80, 84] [0, 1, 2, 3, 4, 5, 6, 7, 8, 9, 10, 11, 12, 13, 14, 15, 16, 17, 18, 19, 20, 21, 22, 23, 24, 25, 26, 27, 28, 29, 30, 31, 32, 33, 34, 35, 36, 37, 38, 39, 40, 41, 42, 43, 44, 45, 46, 47, 48, 49, 50, 51, 52, 53, 54, 55, 56, 57, 58, 59, 60, 61, 62, 63, 64, 65, 66, 67, 68, 69, 70, 81, 71, 72, 73, 74, 75, 76, 77, 78, 79, 82, 83, 84, 80] rfl rfl (by decide +kernel) (by decide +kernel) (by decide +kernel) (fun _ => rfl) (fun r0 u H locs hw hP hD hS => ?_)
  obtain ⟨rfl, rfl⟩ := hw
  have hP : va_P D vwCl (lw_W cy qx ux qm um torn now trial wg0 wg1 wg2 wg3 seen k0 k1 iw0 iw1 is0 is1 (sf2 0) (sf2 1) (sf2 2) (sf2 3) tp rd row best (nI pe) dp mb mr mh (nI tn) po be so va rd.2.2 wr he sp bc bm l1 l2 l3 torn (nf_a S) (nf_a N) kp (nf_a Dr) tape row2 best2 heavy byk L2 Z2 C2 bef) H := hP
  have hD : va_D (fun q : Nat => s.heap.size ≤ q) (lw_W cy qx ux qm um torn now trial wg0 wg1 wg2 wg3 seen k0 k1 iw0 iw1 is0 is1 (sf2 0) (sf2 1) (sf2 2) (sf2 3) tp rd row best (nI pe) dp mb mr mh (nI tn) po be so va rd.2.2 wr he sp bc bm l1 l2 l3 torn (nf_a S) (nf_a N) kp (nf_a Dr) tape row2 best2 heavy byk L2 Z2 C2 bef) := hD
  refine W.eq (g2 := F0 m 1216 ls [.int r, .int r]) rfl ?_
  refine lv_icmp_eq (tgt := 1353) hx hb dL_law_1216 (by decide) (fun _ => ?_) (fun cc => absurd rfl cc)
  have hR2 : lw_R cy qx ux qm um (lw_W cy qx ux qm um torn now trial wg0 wg1 wg2 wg3 seen k0 k1 iw0 iw1 is0 is1 (sf2 0) (sf2 1) (sf2 2) (sf2 3) tp rd row best (nI pe) dp mb mr mh (nI tn) po be so va rd.2.2 wr he sp bc bm l1 l2 l3 torn (nf_a S) (nf_a N) kp (nf_a Dr) tape row2 best2 heavy byk L2 Z2 C2 bef) := lw_mk (sf := sf2) rfl rfl h1 hi0 hi1 g1 htp
  exact lx_T C0 kk _ _ _ _ hR2 hP hD hS (lv_sub hl [0, 1, 2, 3] rfl)
set_option maxHeartbeats 8000000 in
set_option maxRecDepth 100000 in
theorem lp_35 {p : Program} {l : Launch} {e : Env} {s : State} {m : MethodId} {below : List Frame} {meth : Method} {c : Code} {b L : Nat} {xs : Nat → Int32} {D : va_G} {cy : Nat → ClassId} {X : (Nat → Nat) × (Nat → Nat)} {qx qm : Nat} {ux um : Nat → Nat} {i : Nat} (C0 : lx_C p s m meth c b L xs D cy X) (hi5 : i + 5 ≤ L) (kk : lx_G p l e s m below meth c b D cy qx ux qm um (nI i + 5) 18) : lx_G p l e s m below meth c b D cy qx ux qm um (nI i) 1221 := by
  intro ws H locs ls hR hP hD hS hl
  obtain ⟨⟨hx, hb, hr0, hml, hown, hts, hX, hbl, hlocks, hgv⟩, hL, hK, hE⟩ := id C0
  have htw := lx_h hts
  have hA : ∀ q : Nat, s.heap.size ≤ q → (fun q : Nat => s.heap.size ≤ q) q := fun _ h => h
  have hbA : ¬ (fun q : Nat => s.heap.size ≤ q) b := Nat.not_le.mpr hbl
  obtain ⟨pe, tn, S, N, Dr, torn, now, trial, wg0, wg1, wg2, wg3, seen, k0, k1, iw0, iw1, is0, is1, sf, tp, rd, row, best, dp, mb, mr, mh, po, be, so, va, wr, he, sp, bc, bm, l1, l2, l3, kp, tape, row2, best2, heavy, byk, lan, siz, cel, bef, rfl, h1, hi0, hi1, hs4, htp⟩ := hR
  obtain ⟨z1, ez1⟩ : ∃ z, z = xs (nI i + nI 1).toNatClampNeg := ⟨_, rfl⟩
  obtain ⟨z2, ez2⟩ : ∃ z, z = xs (nI i + nI 2).toNatClampNeg := ⟨_, rfl⟩
  obtain ⟨z3, ez3⟩ : ∃ z, z = xs (nI i + nI 3).toNatClampNeg := ⟨_, rfl⟩
  obtain ⟨r, sf2, C2, e1, e2, g1⟩ := op_lay hs4 z1 z2 z3
  refine lv_aload_n hx hb dL_law_1221 rfl (lv_at hl 2 rfl) ?_
  refine lv_aload_n hx hb dL_law_1222 rfl (lv_at hl 1 rfl) ?_
  refine lv_iload_n hx hb dL_law_1223 rfl (lv_at hl 0 rfl) ?_
  refine lv_iconst (v := nI 1) hx hb dL_law_1224 (by decide) ?_
  refine lv_iadd hx hb dL_law_1225 ?_
  refine va_sld hx hb hX hbl hbA hS (lx_v (k := 1) hi5 (by omega) hL) dL_law_1226 ?_
  rw [← ez1]
  refine lv_aload_n hx hb dL_law_1227 rfl (lv_at hl 1 rfl) ?_
  refine lv_iload_n hx hb dL_law_1228 rfl (lv_at hl 0 rfl) ?_
  refine lv_iconst (v := nI 2) hx hb dL_law_1229 (by decide) ?_
  refine lv_iadd hx hb dL_law_1230 ?_
  refine va_sld hx hb hX hbl hbA hS (lx_v (k := 2) hi5 (by omega) hL) dL_law_1231 ?_
  rw [← ez2]
  refine lv_aload_n hx hb dL_law_1232 rfl (lv_at hl 1 rfl) ?_
  refine lv_iload_n hx hb dL_law_1233 rfl (lv_at hl 0 rfl) ?_
  refine lv_iconst (v := nI 3) hx hb dL_law_1234 (by decide) ?_
  refine lv_iadd hx hb dL_law_1235 ?_
  refine va_sld hx hb hX hbl hbA hS (lx_v (k := 3) hi5 (by omega) hL) dL_law_1236 ?_
  rw [← ez3]
  have hPc := hP.sub (ws' := wc_X6_lay cy qx (ux 16) (ux 68) (ux 69) (ux 66) (ux 67) (ux 64) (ux 65) (ux 62) (ux 63) (ux 0) (ux 5) (ux 10) (ux 11) (ux 15) (ux 17) (ux 19) (ux 20) (ux 21) torn (sf 3) (sf 2) (sf 1) (sf 0)) [0, 17, 69, 70, 67, 68, 65, 66, 63, 64] rfl
  have hDc := hD.sub (ws' := wc_X6_lay cy qx (ux 16) (ux 68) (ux 69) (ux 66) (ux 67) (ux 64) (ux 65) (ux 62) (ux 63) (ux 0) (ux 5) (ux 10) (ux 11) (ux 15) (ux 17) (ux 19) (ux 20) (ux 21) torn (sf 3) (sf 2) (sf 1) (sf 0)) [0, 17, 69, 70, 67, 68, 65, 66, 63, 64] (by decide +kernel) rfl
  refine cl_i (fun (u : s_S × s_S × s_S × s_S) => lw_W cy qx ux qm um torn now trial wg0 wg1 wg2 wg3 seen k0 k1 iw0 iw1 is0 is1 u.2.2.2 u.2.2.1 u.2.1 u.1 tp rd row best (nI pe) dp mb mr mh (nI tn) po be so va rd.2.2 wr he sp bc bm l1 l2 l3 torn (nf_a S) (nf_a N) kp (nf_a Dr) tape row2 best2 heavy byk lan siz cel bef) (va_runV (As := [.int z1, .int z2, .int z3]) (rest := []) (C := RX6) ⟨hx, hb, hml, hown, hts⟩ (c_X6_lay l D cy H.size qx (ux 16) (ux 68) (ux 69) (ux 66) (ux 67) (ux 64) (ux 65) (ux 62) (ux 63) (ux 0) (ux 5) (ux 10) (ux 11) (ux 15) (ux 17) (ux 19) (ux 20) (ux 21) torn (sf 3) (sf 2) (sf 1) (sf 0) z1 z2 z3 e1) ⟨callB_of 3 hts (wg_law k_663) rfl rfl rfl (htw _ k_1) (htw _ k_660) (by decide +kernel) ⟨by decide, by decide⟩, (htw _ k_661), (htw _ k_662)⟩ ⟨st_blind, va_recv hK.1 hPc (ci := 6) (q0 := 0) rfl rfl, fun U hU hW => st_pre hK hPc hDc hU hW⟩ rfl rfl hl.1 rfl (lv_room (Nat.le_of_ble_eq_true rfl)) dL_law_1237 ⟨by decide, by decide⟩) hP hD hS hA [0, 17, 69, 70, 67, 68, 65, 66, 63, 64] [1, 2, 3, 4, 5, 6, 7, 8, 9, 10, 11, 12, 13, 14, 15, 16, 18, 19, 20, 21, 22, 23, 24, 25, 26, 27, 28, 29, 30, 31, 32, 33, 34, 35, 36, 37, 38, 39, 40, 41, 42, 43, 44, 45, 46, 47, 48, 49, 50, 51, 52, 53, 54, 55, 56, 57, 58, 59, 60, 61, 62, 71, 72, 73, 74, 75, 76, 77, 78, 79, 80, 81, 82, 83, 84] [75, 0, 1, 2, 3, 4, 5, 6, 7, 8, 9, 10, 11, 12, 13, 14, 15, 76, 16, 17, 18, 19, 20, 21, 22, 23, 24, 25, 26, 27, 28, 29, 30, 31, 32, 33, 34, 35, 36, 37, 38, 39, 40, 41, 42, 43, 44, 45, 46, 47, 48, 49, 50, 51, 52, 53, 54, 55, 56, 57, 58, 59, 60, 83, 84, 81, 82, 79, 80, 77, 78, 61, 62, 63, 64, 65, 66, 67, 68, 69, 70, 71, 72, 73, 74] rfl rfl (by decide +kernel) (by decide +kernel) (by decide +kernel) (fun _ => rfl) (fun r0 u H locs hw hP hD hS => ?_)
  obtain ⟨rfl, rfl⟩ := hw
  have hP : va_P D vwCl (lw_W cy qx ux qm um torn now trial wg0 wg1 wg2 wg3 seen k0 k1 iw0 iw1 is0 is1 (sf2 0) (sf2 1) (sf2 2) (sf2 3) tp rd row best (nI pe) dp mb mr mh (nI tn) po be so va rd.2.2 wr he sp bc bm l1 l2 l3 torn (nf_a S) (nf_a N) kp (nf_a Dr) tape row2 best2 heavy byk lan siz cel bef) H := hP
  have hD : va_D (fun q : Nat => s.heap.size ≤ q) (lw_W cy qx ux qm um torn now trial wg0 wg1 wg2 wg3 seen k0 k1 iw0 iw1 is0 is1 (sf2 0) (sf2 1) (sf2 2) (sf2 3) tp rd row best (nI pe) dp mb mr mh (nI tn) po be so va rd.2.2 wr he sp bc bm l1 l2 l3 torn (nf_a S) (nf_a N) kp (nf_a Dr) tape row2 best2 heavy byk lan siz cel bef) := hD
  refine W.eq (g2 := F0 m 1240 ls [.int r]) rfl ?_
  refine lv_aload_n hx hb dL_law_1240 rfl (lv_at hl 3 rfl) ?_
  refine lv_aload_n hx hb dL_law_1241 rfl (lv_at hl 1 rfl) ?_
  refine lv_iload_n hx hb dL_law_1242 rfl (lv_at hl 0 rfl) ?_
  refine lv_iconst (v := nI 1) hx hb dL_law_1243 (by decide) ?_
  refine lv_iadd hx hb dL_law_1244 ?_
  refine va_sld hx hb hX hbl hbA hS (lx_v (k := 1) hi5 (by omega) hL) dL_law_1245 ?_
  rw [← ez1]
  refine lv_aload_n hx hb dL_law_1246 rfl (lv_at hl 1 rfl) ?_
  refine lv_iload_n hx hb dL_law_1247 rfl (lv_at hl 0 rfl) ?_
  refine lv_iconst (v := nI 2) hx hb dL_law_1248 (by decide) ?_
  refine lv_iadd hx hb dL_law_1249 ?_
  refine va_sld hx hb hX hbl hbA hS (lx_v (k := 2) hi5 (by omega) hL) dL_law_1250 ?_
  rw [← ez2]
  refine lv_aload_n hx hb dL_law_1251 rfl (lv_at hl 1 rfl) ?_
  refine lv_iload_n hx hb dL_law_1252 rfl (lv_at hl 0 rfl) ?_
  refine lv_iconst (v := nI 3) hx hb dL_law_1253 (by decide) ?_
  refine lv_iadd hx hb dL_law_1254 ?_
  refine va_sld hx hb hX hbl hbA hS (lx_v (k := 3) hi5 (by omega) hL) dL_law_1255 ?_
  rw [← ez3]
  have hPc := hP.sub (ws' := wc_X7_lay cy qm (um 9) (um 10) (um 11) (um 0) (um 1) (um 2) (um 3) (um 4) (um 5) (um 6) (um 7) (um 8) (um 12) (nI pe) dp mb mr mh (nI tn) po be so va rd.2.2 wr he sp bc bm l1 l2 l3 torn lan siz cel) [71, 81, 82, 83] rfl
  have hDc := hD.sub (ws' := wc_X7_lay cy qm (um 9) (um 10) (um 11) (um 0) (um 1) (um 2) (um 3) (um 4) (um 5) (um 6) (um 7) (um 8) (um 12) (nI pe) dp mb mr mh (nI tn) po be so va rd.2.2 wr he sp bc bm l1 l2 l3 torn lan siz cel) [71, 81, 82, 83] (by decide +kernel) rfl
  refine cl_i (fun (u : (Nat → Int32)) => lw_W cy qx ux qm um torn now trial wg0 wg1 wg2 wg3 seen k0 k1 iw0 iw1 is0 is1 (sf2 0) (sf2 1) (sf2 2) (sf2 3) tp rd row best (nI pe) dp mb mr mh (nI tn) po be so va rd.2.2 wr he sp bc bm l1 l2 l3 torn (nf_a S) (nf_a N) kp (nf_a Dr) tape row2 best2 heavy byk lan siz u bef) (va_runV (As := [.int z1, .int z2, .int z3]) (rest := [.int r]) (C := RX7) ⟨hx, hb, hml, hown, hts⟩ (c_X7_lay l D cy H.size qm (um 9) (um 10) (um 11) (um 0) (um 1) (um 2) (um 3) (um 4) (um 5) (um 6) (um 7) (um 8) (um 12) (nI pe) dp mb mr mh (nI tn) po be so va rd.2.2 wr he sp bc bm l1 l2 l3 torn lan siz cel z1 z2 z3 e2) ⟨callB_of 3 hts (wg_law k_1133) rfl rfl rfl (htw _ k_8) (htw _ k_1130) (by decide +kernel) ⟨by decide, by decide⟩, (htw _ k_1131), (htw _ k_1132)⟩ ⟨st_blind, va_recv hK.1 hPc (ci := 7) (q0 := 0) rfl rfl, fun U hU hW => st_pre hK hPc hDc hU hW⟩ rfl rfl hl.1 rfl (lv_room (Nat.le_of_ble_eq_true rfl)) dL_law_1256 ⟨by decide, by decide⟩) hP hD hS hA [71, 81, 82, 83] [0, 1, 2, 3, 4, 5, 6, 7, 8, 9, 10, 11, 12, 13, 14, 15, 16, 17, 18, 19, 20, 21, 22, 23, 24, 25, 26, 27, 28, 29, 30, 31, 32, 33, 34, 35, 36, 37, 38, 39, 40, 41, 42, 43, 44, 45, 46, 47, 48, 49, 50, 51, 52, 53, 54, 55, 56, 57, 58, 59, 60, 61, 62, 63, 64, 65, 66, 67, 68, 69, 70, 72, 73, 74, 75, 76, 77, 78, 79, 80, 84] [0, 1, 2, 3, 4, 5, 6, 7, 8, 9, 10, 11, 12, 13, 14, 15, 16, 17, 18, 19, 20, 21, 22, 23, 24, 25, 26, 27, 28, 29, 30, 31, 32, 33, 34, 35, 36, 37, 38, 39, 40, 41, 42, 43, 44, 45, 46, 47, 48, 49, 50, 51, 52, 53, 54, 55, 56, 57, 58, 59, 60, 61, 62, 63, 64, 65, 66, 67, 68, 69, 70, 81, 71, 72, 73, 74, 75, 76, 77, 78, 79, 82, 83, 84, 80] rfl rfl (by decide +kernel) (by decide +kernel) (by decide +kernel) (fun _ => rfl) (fun r0 u H locs hw hP hD hS => ?_)
  obtain ⟨rfl, rfl⟩ := hw
  have hP : va_P D vwCl (lw_W cy qx ux qm um torn now trial wg0 wg1 wg2 wg3 seen k0 k1 iw0 iw1 is0 is1 (sf2 0) (sf2 1) (sf2 2) (sf2 3) tp rd row best (nI pe) dp mb mr mh (nI tn) po be so va rd.2.2 wr he sp bc bm l1 l2 l3 torn (nf_a S) (nf_a N) kp (nf_a Dr) tape row2 best2 heavy byk lan siz C2 bef) H := hP
  have hD : va_D (fun q : Nat => s.heap.size ≤ q) (lw_W cy qx ux qm um torn now trial wg0 wg1 wg2 wg3 seen k0 k1 iw0 iw1 is0 is1 (sf2 0) (sf2 1) (sf2 2) (sf2 3) tp rd row best (nI pe) dp mb mr mh (nI tn) po be so va rd.2.2 wr he sp bc bm l1 l2 l3 torn (nf_a S) (nf_a N) kp (nf_a Dr) tape row2 best2 heavy byk lan siz C2 bef) := hD
  refine W.eq (g2 := F0 m 1259 ls [.int r, .int r]) rfl ?_
  refine lv_icmp_eq (tgt := 1353) hx hb dL_law_1259 (by decide) (fun _ => ?_) (fun cc => absurd rfl cc)
  have hR2 : lw_R cy qx ux qm um (lw_W cy qx ux qm um torn now trial wg0 wg1 wg2 wg3 seen k0 k1 iw0 iw1 is0 is1 (sf2 0) (sf2 1) (sf2 2) (sf2 3) tp rd row best (nI pe) dp mb mr mh (nI tn) po be so va rd.2.2 wr he sp bc bm l1 l2 l3 torn (nf_a S) (nf_a N) kp (nf_a Dr) tape row2 best2 heavy byk lan siz C2 bef) := lw_mk (sf := sf2) rfl rfl h1 hi0 hi1 g1 htp
  exact lx_T C0 kk _ _ _ _ hR2 hP hD hS (lv_sub hl [0, 1, 2, 3] rfl)
set_option maxHeartbeats 8000000 in
set_option maxRecDepth 100000 in
theorem lp_36 {p : Program} {l : Launch} {e : Env} {s : State} {m : MethodId} {below : List Frame} {meth : Method} {c : Code} {b L : Nat} {xs : Nat → Int32} {D : va_G} {cy : Nat → ClassId} {X : (Nat → Nat) × (Nat → Nat)} {qx qm : Nat} {ux um : Nat → Nat} {i : Nat} (C0 : lx_C p s m meth c b L xs D cy X) (hi5 : i + 5 ≤ L) (kk : lx_G p l e s m below meth c b D cy qx ux qm um (nI i + 5) 18) : lx_G p l e s m below meth c b D cy qx ux qm um (nI i) 1264 := by
  intro ws H locs ls hR hP hD hS hl
  obtain ⟨⟨hx, hb, hr0, hml, hown, hts, hX, hbl, hlocks, hgv⟩, hL, hK, hE⟩ := id C0
  have htw := lx_h hts
  have hA : ∀ q : Nat, s.heap.size ≤ q → (fun q : Nat => s.heap.size ≤ q) q := fun _ h => h
  have hbA : ¬ (fun q : Nat => s.heap.size ≤ q) b := Nat.not_le.mpr hbl
  obtain ⟨pe, tn, S, N, Dr, torn, now, trial, wg0, wg1, wg2, wg3, seen, k0, k1, iw0, iw1, is0, is1, sf, tp, rd, row, best, dp, mb, mr, mh, po, be, so, va, wr, he, sp, bc, bm, l1, l2, l3, kp, tape, row2, best2, heavy, byk, lan, siz, cel, bef, rfl, h1, hi0, hi1, hs4, htp⟩ := hR
  obtain ⟨z1, ez1⟩ : ∃ z, z = xs (nI i + nI 1).toNatClampNeg := ⟨_, rfl⟩
  obtain ⟨z2, ez2⟩ : ∃ z, z = xs (nI i + nI 2).toNatClampNeg := ⟨_, rfl⟩
  obtain ⟨z3, ez3⟩ : ∃ z, z = xs (nI i + nI 3).toNatClampNeg := ⟨_, rfl⟩
  obtain ⟨z4, ez4⟩ : ∃ z, z = xs (nI i + nI 4).toNatClampNeg := ⟨_, rfl⟩
  obtain ⟨r, tr, w2, S2, bf2, e1, e2, g1, o46⟩ := op_read (f := 5000) (torn := torn) (bf := bef) h1 hs4 (by decide) z1 z2 z3 z4
  refine lv_aload_n hx hb dL_law_1264 rfl (lv_at hl 2 rfl) ?_
  refine lv_aload_n hx hb dL_law_1265 rfl (lv_at hl 1 rfl) ?_
  refine lv_iload_n hx hb dL_law_1266 rfl (lv_at hl 0 rfl) ?_
  refine lv_iconst (v := nI 1) hx hb dL_law_1267 (by decide) ?_
  refine lv_iadd hx hb dL_law_1268 ?_
  refine va_sld hx hb hX hbl hbA hS (lx_v (k := 1) hi5 (by omega) hL) dL_law_1269 ?_
  rw [← ez1]
  refine lv_aload_n hx hb dL_law_1270 rfl (lv_at hl 1 rfl) ?_
  refine lv_iload_n hx hb dL_law_1271 rfl (lv_at hl 0 rfl) ?_
  refine lv_iconst (v := nI 2) hx hb dL_law_1272 (by decide) ?_
  refine lv_iadd hx hb dL_law_1273 ?_
  refine va_sld hx hb hX hbl hbA hS (lx_v (k := 2) hi5 (by omega) hL) dL_law_1274 ?_
  rw [← ez2]
  refine lv_aload_n hx hb dL_law_1275 rfl (lv_at hl 1 rfl) ?_
  refine lv_iload_n hx hb dL_law_1276 rfl (lv_at hl 0 rfl) ?_
  refine lv_iconst (v := nI 3) hx hb dL_law_1277 (by decide) ?_
  refine lv_iadd hx hb dL_law_1278 ?_
  refine va_sld hx hb hX hbl hbA hS (lx_v (k := 3) hi5 (by omega) hL) dL_law_1279 ?_
  rw [← ez3]
  refine lv_aload_n hx hb dL_law_1280 rfl (lv_at hl 1 rfl) ?_
  refine lv_iload_n hx hb dL_law_1281 rfl (lv_at hl 0 rfl) ?_
  refine lv_iconst (v := nI 4) hx hb dL_law_1282 (by decide) ?_
  refine lv_iadd hx hb dL_law_1283 ?_
  refine va_sld hx hb hX hbl hbA hS (lx_v (k := 4) hi5 (by omega) hL) dL_law_1284 ?_
  rw [← ez4]
  have hPc := hP.sub (ws' := wc_X6_read cy qx (ux 16) (ux 62) (ux 63) (ux 0) (ux 1) (ux 2) (ux 3) (ux 4) (ux 64) (ux 65) (ux 66) (ux 67) (ux 68) (ux 69) (ux 5) (ux 10) (ux 11) (ux 15) (ux 17) (ux 19) (ux 20) (ux 21) torn (sf 0) now (sf 1) (sf 2) (sf 3)) [0, 17, 63, 64, 1, 2, 3, 4, 5, 65, 66, 67, 68, 69, 70] rfl
  have hDc := hD.sub (ws' := wc_X6_read cy qx (ux 16) (ux 62) (ux 63) (ux 0) (ux 1) (ux 2) (ux 3) (ux 4) (ux 64) (ux 65) (ux 66) (ux 67) (ux 68) (ux 69) (ux 5) (ux 10) (ux 11) (ux 15) (ux 17) (ux 19) (ux 20) (ux 21) torn (sf 0) now (sf 1) (sf 2) (sf 3)) [0, 17, 63, 64, 1, 2, 3, 4, 5, 65, 66, 67, 68, 69, 70] (by decide +kernel) rfl
  refine cl_i (fun (u : Int32 × s_W) => lw_W cy qx ux qm um u.1 u.2 trial wg0 wg1 wg2 wg3 seen k0 k1 iw0 iw1 is0 is1 (sf 0) (sf 1) (sf 2) (sf 3) tp rd row best (nI pe) dp mb mr mh (nI tn) po be so va rd.2.2 wr he sp bc bm l1 l2 l3 torn (nf_a S) (nf_a N) kp (nf_a Dr) tape row2 best2 heavy byk lan siz cel bef) (va_runV (As := [.int z1, .int z2, .int z3, .int z4]) (rest := []) (C := RX6) ⟨hx, hb, hml, hown, hts⟩ (c_X6_read l D cy H.size qx (ux 16) (ux 62) (ux 63) (ux 0) (ux 1) (ux 2) (ux 3) (ux 4) (ux 64) (ux 65) (ux 66) (ux 67) (ux 68) (ux 69) (ux 5) (ux 10) (ux 11) (ux 15) (ux 17) (ux 19) (ux 20) (ux 21) torn (sf 0) now (sf 1) (sf 2) (sf 3) z1 z2 z3 z4 (f := 5000) e1) ⟨callB_of 4 hts (wg_law k_676) rfl rfl rfl (htw _ k_1) (htw _ k_673) (by decide +kernel) ⟨by decide, by decide⟩, (htw _ k_674), (htw _ k_675)⟩ ⟨st_blind, va_recv hK.1 hPc (ci := 6) (q0 := 0) rfl rfl, fun U hU hW => st_pre hK hPc hDc hU hW⟩ rfl rfl hl.1 rfl (lv_room (Nat.le_of_ble_eq_true rfl)) dL_law_1285 ⟨by decide, by decide⟩) hP hD hS hA [0, 17, 63, 64, 1, 2, 3, 4, 5, 65, 66, 67, 68, 69, 70] [6, 7, 8, 9, 10, 11, 12, 13, 14, 15, 16, 18, 19, 20, 21, 22, 23, 24, 25, 26, 27, 28, 29, 30, 31, 32, 33, 34, 35, 36, 37, 38, 39, 40, 41, 42, 43, 44, 45, 46, 47, 48, 49, 50, 51, 52, 53, 54, 55, 56, 57, 58, 59, 60, 61, 62, 71, 72, 73, 74, 75, 76, 77, 78, 79, 80, 81, 82, 83, 84] [70, 74, 75, 76, 77, 78, 0, 1, 2, 3, 4, 5, 6, 7, 8, 9, 10, 71, 11, 12, 13, 14, 15, 16, 17, 18, 19, 20, 21, 22, 23, 24, 25, 26, 27, 28, 29, 30, 31, 32, 33, 34, 35, 36, 37, 38, 39, 40, 41, 42, 43, 44, 45, 46, 47, 48, 49, 50, 51, 52, 53, 54, 55, 72, 73, 79, 80, 81, 82, 83, 84, 56, 57, 58, 59, 60, 61, 62, 63, 64, 65, 66, 67, 68, 69] rfl rfl (by decide +kernel) (by decide +kernel) (by decide +kernel) (fun _ => rfl) (fun r0 u H locs hw hP hD hS => ?_)
  obtain ⟨rfl, rfl⟩ := hw
  have hP : va_P D vwCl (lw_W cy qx ux qm um tr w2 trial wg0 wg1 wg2 wg3 seen k0 k1 iw0 iw1 is0 is1 (sf 0) (sf 1) (sf 2) (sf 3) tp rd row best (nI pe) dp mb mr mh (nI tn) po be so va rd.2.2 wr he sp bc bm l1 l2 l3 torn (nf_a S) (nf_a N) kp (nf_a Dr) tape row2 best2 heavy byk lan siz cel bef) H := hP
  have hD : va_D (fun q : Nat => s.heap.size ≤ q) (lw_W cy qx ux qm um tr w2 trial wg0 wg1 wg2 wg3 seen k0 k1 iw0 iw1 is0 is1 (sf 0) (sf 1) (sf 2) (sf 3) tp rd row best (nI pe) dp mb mr mh (nI tn) po be so va rd.2.2 wr he sp bc bm l1 l2 l3 torn (nf_a S) (nf_a N) kp (nf_a Dr) tape row2 best2 heavy byk lan siz cel bef) := hD
  refine W.eq (g2 := F0 m 1288 ls [.int r]) rfl ?_
  refine lv_aload_n hx hb dL_law_1288 rfl (lv_at hl 3 rfl) ?_
  refine lv_aload_n hx hb dL_law_1289 rfl (lv_at hl 1 rfl) ?_
  refine lv_iload_n hx hb dL_law_1290 rfl (lv_at hl 0 rfl) ?_
  refine lv_iconst (v := nI 1) hx hb dL_law_1291 (by decide) ?_
  refine lv_iadd hx hb dL_law_1292 ?_
  refine va_sld hx hb hX hbl hbA hS (lx_v (k := 1) hi5 (by omega) hL) dL_law_1293 ?_
  rw [← ez1]
  refine lv_aload_n hx hb dL_law_1294 rfl (lv_at hl 1 rfl) ?_
  refine lv_iload_n hx hb dL_law_1295 rfl (lv_at hl 0 rfl) ?_
  refine lv_iconst (v := nI 2) hx hb dL_law_1296 (by decide) ?_
  refine lv_iadd hx hb dL_law_1297 ?_
  refine va_sld hx hb hX hbl hbA hS (lx_v (k := 2) hi5 (by omega) hL) dL_law_1298 ?_
  rw [← ez2]
  refine lv_aload_n hx hb dL_law_1299 rfl (lv_at hl 1 rfl) ?_
  refine lv_iload_n hx hb dL_law_1300 rfl (lv_at hl 0 rfl) ?_
  refine lv_iconst (v := nI 3) hx hb dL_law_1301 (by decide) ?_
  refine lv_iadd hx hb dL_law_1302 ?_
  refine va_sld hx hb hX hbl hbA hS (lx_v (k := 3) hi5 (by omega) hL) dL_law_1303 ?_
  rw [← ez3]
  refine lv_aload_n hx hb dL_law_1304 rfl (lv_at hl 1 rfl) ?_
  refine lv_iload_n hx hb dL_law_1305 rfl (lv_at hl 0 rfl) ?_
  refine lv_iconst (v := nI 4) hx hb dL_law_1306 (by decide) ?_
  refine lv_iadd hx hb dL_law_1307 ?_
  refine va_sld hx hb hX hbl hbA hS (lx_v (k := 4) hi5 (by omega) hL) dL_law_1308 ?_
  rw [← ez4]
  have hPc := hP.sub (ws' := wc_X7_read cy qm (um 0) (um 12) (um 9) (um 10) (um 11) (um 1) (um 2) (um 3) (um 4) (um 5) (um 6) (um 7) (um 8) (nI pe) dp mb mr mh (nI tn) po be so va rd.2.2 wr he sp bc bm l1 l2 l3 torn (nf_a S) bef lan siz cel) [71, 72, 84, 81, 82, 83] rfl
  have hDc := hD.sub (ws' := wc_X7_read cy qm (um 0) (um 12) (um 9) (um 10) (um 11) (um 1) (um 2) (um 3) (um 4) (um 5) (um 6) (um 7) (um 8) (nI pe) dp mb mr mh (nI tn) po be so va rd.2.2 wr he sp bc bm l1 l2 l3 torn (nf_a S) bef lan siz cel) [71, 72, 84, 81, 82, 83] (by decide +kernel) rfl
  refine cl_i (fun (u : Int32 × (Nat → Int32) × (Nat → Int32)) => lw_W cy qx ux qm um tr w2 trial wg0 wg1 wg2 wg3 seen k0 k1 iw0 iw1 is0 is1 (sf 0) (sf 1) (sf 2) (sf 3) tp rd row best (nI pe) dp mb mr mh (nI tn) po be so va rd.2.2 wr he sp bc bm l1 l2 l3 u.1 u.2.1 (nf_a N) kp (nf_a Dr) tape row2 best2 heavy byk lan siz cel u.2.2) (va_runV (As := [.int z1, .int z2, .int z3, .int z4]) (rest := [.int r]) (C := RX7) ⟨hx, hb, hml, hown, hts⟩ (c_X7_read l D cy H.size qm (um 0) (um 12) (um 9) (um 10) (um 11) (um 1) (um 2) (um 3) (um 4) (um 5) (um 6) (um 7) (um 8) (nI pe) dp mb mr mh (nI tn) po be so va rd.2.2 wr he sp bc bm l1 l2 l3 torn (nf_a S) bef lan siz cel z1 z2 z3 z4 (f := 5000) e2) ⟨callB_of 4 hts (wg_law k_1137) rfl rfl rfl (htw _ k_8) (htw _ k_1134) (by decide +kernel) ⟨by decide, by decide⟩, (htw _ k_1135), (htw _ k_1136)⟩ ⟨st_blind, va_recv hK.1 hPc (ci := 7) (q0 := 0) rfl rfl, fun U hU hW => st_pre hK hPc hDc hU hW⟩ rfl rfl hl.1 rfl (lv_room (Nat.le_of_ble_eq_true rfl)) dL_law_1309 ⟨by decide, by decide⟩) hP hD hS hA [71, 72, 84, 81, 82, 83] [0, 1, 2, 3, 4, 5, 6, 7, 8, 9, 10, 11, 12, 13, 14, 15, 16, 17, 18, 19, 20, 21, 22, 23, 24, 25, 26, 27, 28, 29, 30, 31, 32, 33, 34, 35, 36, 37, 38, 39, 40, 41, 42, 43, 44, 45, 46, 47, 48, 49, 50, 51, 52, 53, 54, 55, 56, 57, 58, 59, 60, 61, 62, 63, 64, 65, 66, 67, 68, 69, 70, 73, 74, 75, 76, 77, 78, 79, 80] [0, 1, 2, 3, 4, 5, 6, 7, 8, 9, 10, 11, 12, 13, 14, 15, 16, 17, 18, 19, 20, 21, 22, 23, 24, 25, 26, 27, 28, 29, 30, 31, 32, 33, 34, 35, 36, 37, 38, 39, 40, 41, 42, 43, 44, 45, 46, 47, 48, 49, 50, 51, 52, 53, 54, 55, 56, 57, 58, 59, 60, 61, 62, 63, 64, 65, 66, 67, 68, 69, 70, 79, 80, 71, 72, 73, 74, 75, 76, 77, 78, 82, 83, 84, 81] rfl rfl (by decide +kernel) (by decide +kernel) (by decide +kernel) (fun _ => rfl) (fun r0 u H locs hw hP hD hS => ?_)
  obtain ⟨rfl, rfl⟩ := hw
  have hP : va_P D vwCl (lw_W cy qx ux qm um tr w2 trial wg0 wg1 wg2 wg3 seen k0 k1 iw0 iw1 is0 is1 (sf 0) (sf 1) (sf 2) (sf 3) tp rd row best (nI pe) dp mb mr mh (nI tn) po be so va rd.2.2 wr he sp bc bm l1 l2 l3 tr (nf_a S2) (nf_a N) kp (nf_a Dr) tape row2 best2 heavy byk lan siz cel bf2) H := hP
  have hD : va_D (fun q : Nat => s.heap.size ≤ q) (lw_W cy qx ux qm um tr w2 trial wg0 wg1 wg2 wg3 seen k0 k1 iw0 iw1 is0 is1 (sf 0) (sf 1) (sf 2) (sf 3) tp rd row best (nI pe) dp mb mr mh (nI tn) po be so va rd.2.2 wr he sp bc bm l1 l2 l3 tr (nf_a S2) (nf_a N) kp (nf_a Dr) tape row2 best2 heavy byk lan siz cel bf2) := hD
  refine W.eq (g2 := F0 m 1312 ls [.int r, .int r]) rfl ?_
  refine lv_icmp_eq (tgt := 1353) hx hb dL_law_1312 (by decide) (fun _ => ?_) (fun cc => absurd rfl cc)
  have hR2 : lw_R cy qx ux qm um (lw_W cy qx ux qm um tr w2 trial wg0 wg1 wg2 wg3 seen k0 k1 iw0 iw1 is0 is1 (sf 0) (sf 1) (sf 2) (sf 3) tp rd row best (nI pe) dp mb mr mh (nI tn) po be so va rd.2.2 wr he sp bc bm l1 l2 l3 tr (nf_a S2) (nf_a N) kp (nf_a Dr) tape row2 best2 heavy byk lan siz cel bf2) := lw_mk (sf := sf) rfl rfl g1 (im_cg (fun i _ _ => o46 i (by omega)) hi0) (im_cg (fun i _ _ => o46 i (by omega)) hi1) hs4 htp
  exact lx_T C0 kk _ _ _ _ hR2 hP hD hS (lv_sub hl [0, 1, 2, 3] rfl)
set_option maxHeartbeats 8000000 in
set_option maxRecDepth 100000 in
theorem lp_37 {p : Program} {l : Launch} {e : Env} {s : State} {m : MethodId} {below : List Frame} {meth : Method} {c : Code} {b L : Nat} {xs : Nat → Int32} {D : va_G} {cy : Nat → ClassId} {X : (Nat → Nat) × (Nat → Nat)} {qx qm : Nat} {ux um : Nat → Nat} {i : Nat} (C0 : lx_C p s m meth c b L xs D cy X) (hi5 : i + 5 ≤ L) (kk : lx_G p l e s m below meth c b D cy qx ux qm um (nI i + 5) 18) : lx_G p l e s m below meth c b D cy qx ux qm um (nI i) 1317 := by
  intro ws H locs ls hR hP hD hS hl
  obtain ⟨⟨hx, hb, hr0, hml, hown, hts, hX, hbl, hlocks, hgv⟩, hL, hK, hE⟩ := id C0
  have htw := lx_h hts
  have hA : ∀ q : Nat, s.heap.size ≤ q → (fun q : Nat => s.heap.size ≤ q) q := fun _ h => h
  have hbA : ¬ (fun q : Nat => s.heap.size ≤ q) b := Nat.not_le.mpr hbl
  obtain ⟨pe, tn, S, N, Dr, torn, now, trial, wg0, wg1, wg2, wg3, seen, k0, k1, iw0, iw1, is0, is1, sf, tp, rd, row, best, dp, mb, mr, mh, po, be, so, va, wr, he, sp, bc, bm, l1, l2, l3, kp, tape, row2, best2, heavy, byk, lan, siz, cel, bef, rfl, h1, hi0, hi1, hs4, htp⟩ := hR
  obtain ⟨r, e1, e2⟩ : ∃ r, M_X6_torn torn = some r ∧ M_X7_torn torn = some r := ⟨torn, rfl, rfl⟩
  refine lv_aload_n hx hb dL_law_1317 rfl (lv_at hl 2 rfl) ?_
  have hPc := hP.sub (ws' := wc_X6_torn cy qx (ux 0) (ux 5) (ux 10) (ux 11) (ux 15) (ux 16) (ux 17) (ux 19) (ux 20) (ux 21) torn) [0] rfl
  have hDc := hD.sub (ws' := wc_X6_torn cy qx (ux 0) (ux 5) (ux 10) (ux 11) (ux 15) (ux 16) (ux 17) (ux 19) (ux 20) (ux 21) torn) [0] (by decide +kernel) rfl
  refine cl_i (fun (u : Unit) => lw_W cy qx ux qm um torn now trial wg0 wg1 wg2 wg3 seen k0 k1 iw0 iw1 is0 is1 (sf 0) (sf 1) (sf 2) (sf 3) tp rd row best (nI pe) dp mb mr mh (nI tn) po be so va rd.2.2 wr he sp bc bm l1 l2 l3 torn (nf_a S) (nf_a N) kp (nf_a Dr) tape row2 best2 heavy byk lan siz cel bef) (va_runV (As := []) (rest := []) (C := RX6) ⟨hx, hb, hml, hown, hts⟩ (c_X6_torn l D cy H.size qx (ux 0) (ux 5) (ux 10) (ux 11) (ux 15) (ux 16) (ux 17) (ux 19) (ux 20) (ux 21) torn  e1) ⟨callB_of 0 hts (wg_law k_684) rfl rfl rfl (htw _ k_1) (htw _ k_681) (by decide +kernel) ⟨by decide, by decide⟩, (htw _ k_682), (htw _ k_683)⟩ ⟨st_blind, va_recv hK.1 hPc (ci := 6) (q0 := 0) rfl rfl, fun U hU hW => st_pre hK hPc hDc hU hW⟩ rfl rfl hl.1 rfl (lv_room (Nat.le_of_ble_eq_true rfl)) dL_law_1318 ⟨by decide, by decide⟩) hP hD hS hA [0] [1, 2, 3, 4, 5, 6, 7, 8, 9, 10, 11, 12, 13, 14, 15, 16, 17, 18, 19, 20, 21, 22, 23, 24, 25, 26, 27, 28, 29, 30, 31, 32, 33, 34, 35, 36, 37, 38, 39, 40, 41, 42, 43, 44, 45, 46, 47, 48, 49, 50, 51, 52, 53, 54, 55, 56, 57, 58, 59, 60, 61, 62, 63, 64, 65, 66, 67, 68, 69, 70, 71, 72, 73, 74, 75, 76, 77, 78, 79, 80, 81, 82, 83, 84] [84, 0, 1, 2, 3, 4, 5, 6, 7, 8, 9, 10, 11, 12, 13, 14, 15, 16, 17, 18, 19, 20, 21, 22, 23, 24, 25, 26, 27, 28, 29, 30, 31, 32, 33, 34, 35, 36, 37, 38, 39, 40, 41, 42, 43, 44, 45, 46, 47, 48, 49, 50, 51, 52, 53, 54, 55, 56, 57, 58, 59, 60, 61, 62, 63, 64, 65, 66, 67, 68, 69, 70, 71, 72, 73, 74, 75, 76, 77, 78, 79, 80, 81, 82, 83] rfl rfl (by decide +kernel) (by decide +kernel) (by decide +kernel) (fun _ => rfl) (fun r0 u H locs hw hP hD hS => ?_)
  obtain rfl := hw.symm
  refine W.eq (g2 := F0 m 1321 ls [.int r]) rfl ?_
  refine lv_aload_n hx hb dL_law_1321 rfl (lv_at hl 3 rfl) ?_
  have hPc := hP.sub (ws' := wc_X7_torn cy qm (um 0) (um 1) (um 2) (um 3) (um 4) (um 5) (um 6) (um 7) (um 8) (um 9) (um 10) (um 11) (um 12) (nI pe) dp mb mr mh (nI tn) po be so va rd.2.2 wr he sp bc bm l1 l2 l3 torn) [71] rfl
  have hDc := hD.sub (ws' := wc_X7_torn cy qm (um 0) (um 1) (um 2) (um 3) (um 4) (um 5) (um 6) (um 7) (um 8) (um 9) (um 10) (um 11) (um 12) (nI pe) dp mb mr mh (nI tn) po be so va rd.2.2 wr he sp bc bm l1 l2 l3 torn) [71] (by decide +kernel) rfl
  refine cl_i (fun (u : Unit) => lw_W cy qx ux qm um torn now trial wg0 wg1 wg2 wg3 seen k0 k1 iw0 iw1 is0 is1 (sf 0) (sf 1) (sf 2) (sf 3) tp rd row best (nI pe) dp mb mr mh (nI tn) po be so va rd.2.2 wr he sp bc bm l1 l2 l3 torn (nf_a S) (nf_a N) kp (nf_a Dr) tape row2 best2 heavy byk lan siz cel bef) (va_runV (As := []) (rest := [.int r]) (C := RX7) ⟨hx, hb, hml, hown, hts⟩ (c_X7_torn l D cy H.size qm (um 0) (um 1) (um 2) (um 3) (um 4) (um 5) (um 6) (um 7) (um 8) (um 9) (um 10) (um 11) (um 12) (nI pe) dp mb mr mh (nI tn) po be so va rd.2.2 wr he sp bc bm l1 l2 l3 torn  e2) ⟨callB_of 0 hts (wg_law k_1143) rfl rfl rfl (htw _ k_8) (htw _ k_1140) (by decide +kernel) ⟨by decide, by decide⟩, (htw _ k_1141), (htw _ k_1142)⟩ ⟨st_blind, va_recv hK.1 hPc (ci := 7) (q0 := 0) rfl rfl, fun U hU hW => st_pre hK hPc hDc hU hW⟩ rfl rfl hl.1 rfl (lv_room (Nat.le_of_ble_eq_true rfl)) dL_law_1322 ⟨by decide, by decide⟩) hP hD hS hA [71] [0, 1, 2, 3, 4, 5, 6, 7, 8, 9, 10, 11, 12, 13, 14, 15, 16, 17, 18, 19, 20, 21, 22, 23, 24, 25, 26, 27, 28, 29, 30, 31, 32, 33, 34, 35, 36, 37, 38, 39, 40, 41, 42, 43, 44, 45, 46, 47, 48, 49, 50, 51, 52, 53, 54, 55, 56, 57, 58, 59, 60, 61, 62, 63, 64, 65, 66, 67, 68, 69, 70, 72, 73, 74, 75, 76, 77, 78, 79, 80, 81, 82, 83, 84] [0, 1, 2, 3, 4, 5, 6, 7, 8, 9, 10, 11, 12, 13, 14, 15, 16, 17, 18, 19, 20, 21, 22, 23, 24, 25, 26, 27, 28, 29, 30, 31, 32, 33, 34, 35, 36, 37, 38, 39, 40, 41, 42, 43, 44, 45, 46, 47, 48, 49, 50, 51, 52, 53, 54, 55, 56, 57, 58, 59, 60, 61, 62, 63, 64, 65, 66, 67, 68, 69, 70, 84, 71, 72, 73, 74, 75, 76, 77, 78, 79, 80, 81, 82, 83] rfl rfl (by decide +kernel) (by decide +kernel) (by decide +kernel) (fun _ => rfl) (fun r0 u H locs hw hP hD hS => ?_)
  obtain rfl := hw.symm
  refine W.eq (g2 := F0 m 1325 ls [.int r, .int r]) rfl ?_
  refine lv_icmp_eq (tgt := 1353) hx hb dL_law_1325 (by decide) (fun _ => ?_) (fun cc => absurd rfl cc)
  have hR2 : lw_R cy qx ux qm um (lw_W cy qx ux qm um torn now trial wg0 wg1 wg2 wg3 seen k0 k1 iw0 iw1 is0 is1 (sf 0) (sf 1) (sf 2) (sf 3) tp rd row best (nI pe) dp mb mr mh (nI tn) po be so va rd.2.2 wr he sp bc bm l1 l2 l3 torn (nf_a S) (nf_a N) kp (nf_a Dr) tape row2 best2 heavy byk lan siz cel bef) := lw_mk (sf := sf) rfl rfl h1 hi0 hi1 hs4 htp
  exact lx_T C0 kk _ _ _ _ hR2 hP hD hS (lv_sub hl [0, 1, 2, 3] rfl)
set_option maxHeartbeats 8000000 in
set_option maxRecDepth 100000 in
theorem lp_38 {p : Program} {l : Launch} {e : Env} {s : State} {m : MethodId} {below : List Frame} {meth : Method} {c : Code} {b L : Nat} {xs : Nat → Int32} {D : va_G} {cy : Nat → ClassId} {X : (Nat → Nat) × (Nat → Nat)} {qx qm : Nat} {ux um : Nat → Nat} {i : Nat} (C0 : lx_C p s m meth c b L xs D cy X) (hi5 : i + 5 ≤ L) (kk : lx_G p l e s m below meth c b D cy qx ux qm um (nI i + 5) 18) : lx_G p l e s m below meth c b D cy qx ux qm um (nI i) 1330 := by
  intro ws H locs ls hR hP hD hS hl
  obtain ⟨⟨hx, hb, hr0, hml, hown, hts, hX, hbl, hlocks, hgv⟩, hL, hK, hE⟩ := id C0
  have htw := lx_h hts
  have hA : ∀ q : Nat, s.heap.size ≤ q → (fun q : Nat => s.heap.size ≤ q) q := fun _ h => h
  have hbA : ¬ (fun q : Nat => s.heap.size ≤ q) b := Nat.not_le.mpr hbl
  obtain ⟨pe, tn, S, N, Dr, torn, now, trial, wg0, wg1, wg2, wg3, seen, k0, k1, iw0, iw1, is0, is1, sf, tp, rd, row, best, dp, mb, mr, mh, po, be, so, va, wr, he, sp, bc, bm, l1, l2, l3, kp, tape, row2, best2, heavy, byk, lan, siz, cel, bef, rfl, h1, hi0, hi1, hs4, htp⟩ := hR
  obtain ⟨z1, ez1⟩ : ∃ z, z = xs (nI i + nI 1).toNatClampNeg := ⟨_, rfl⟩
  obtain ⟨r, e1, e2⟩ := op_count (f := 5000) h1 hi0 hi1 hs4 htp (by decide) z1
  refine lv_aload_n hx hb dL_law_1330 rfl (lv_at hl 2 rfl) ?_
  refine lv_aload_n hx hb dL_law_1331 rfl (lv_at hl 1 rfl) ?_
  refine lv_iload_n hx hb dL_law_1332 rfl (lv_at hl 0 rfl) ?_
  refine lv_iconst (v := nI 1) hx hb dL_law_1333 (by decide) ?_
  refine lv_iadd hx hb dL_law_1334 ?_
  refine va_sld hx hb hX hbl hbA hS (lx_v (k := 1) hi5 (by omega) hL) dL_law_1335 ?_
  rw [← ez1]
  have hPc := hP.sub (ws' := wc_X6_count cy qx (ux 0) (ux 1) (ux 2) (ux 3) (ux 4) (ux 16) (ux 62) (ux 63) (ux 17) (ux 18) (ux 15) (ux 42) (ux 52) (ux 11) (ux 12) (ux 13) (ux 14) (ux 5) (ux 10) (ux 19) (ux 20) (ux 21) (ux 64) (ux 66) (ux 68) (ux 43) (ux 48) (ux 53) (ux 58) torn now (sf 0) tp k0 k1 seen) [0, 1, 2, 3, 4, 5, 17, 63, 64, 18, 19, 16, 43, 53, 12, 13, 14, 15] rfl
  have hDc := hD.sub (ws' := wc_X6_count cy qx (ux 0) (ux 1) (ux 2) (ux 3) (ux 4) (ux 16) (ux 62) (ux 63) (ux 17) (ux 18) (ux 15) (ux 42) (ux 52) (ux 11) (ux 12) (ux 13) (ux 14) (ux 5) (ux 10) (ux 19) (ux 20) (ux 21) (ux 64) (ux 66) (ux 68) (ux 43) (ux 48) (ux 53) (ux 58) torn now (sf 0) tp k0 k1 seen) [0, 1, 2, 3, 4, 5, 17, 63, 64, 18, 19, 16, 43, 53, 12, 13, 14, 15] (by decide +kernel) rfl
  refine cl_i (fun (u : Unit) => lw_W cy qx ux qm um torn now trial wg0 wg1 wg2 wg3 seen k0 k1 iw0 iw1 is0 is1 (sf 0) (sf 1) (sf 2) (sf 3) tp rd row best (nI pe) dp mb mr mh (nI tn) po be so va rd.2.2 wr he sp bc bm l1 l2 l3 torn (nf_a S) (nf_a N) kp (nf_a Dr) tape row2 best2 heavy byk lan siz cel bef) (va_runV (As := [.int z1]) (rest := []) (C := RX6) ⟨hx, hb, hml, hown, hts⟩ (c_X6_count l D cy H.size qx (ux 0) (ux 1) (ux 2) (ux 3) (ux 4) (ux 16) (ux 62) (ux 63) (ux 17) (ux 18) (ux 15) (ux 42) (ux 52) (ux 11) (ux 12) (ux 13) (ux 14) (ux 5) (ux 10) (ux 19) (ux 20) (ux 21) (ux 64) (ux 66) (ux 68) (ux 43) (ux 48) (ux 53) (ux 58) torn now (sf 0) tp k0 k1 seen z1 (f := 5000) e1) ⟨callB_of 1 hts (wg_law k_688) rfl rfl rfl (htw _ k_1) (htw _ k_685) (by decide +kernel) ⟨by decide, by decide⟩, (htw _ k_686), (htw _ k_687)⟩ ⟨st_blind, va_recv hK.1 hPc (ci := 6) (q0 := 0) rfl rfl, fun U hU hW => st_pre hK hPc hDc hU hW⟩ rfl rfl hl.1 rfl (lv_room (Nat.le_of_ble_eq_true rfl)) dL_law_1336 ⟨by decide, by decide⟩) hP hD hS hA [0, 1, 2, 3, 4, 5, 17, 63, 64, 18, 19, 16, 43, 53, 12, 13, 14, 15] [6, 7, 8, 9, 10, 11, 20, 21, 22, 23, 24, 25, 26, 27, 28, 29, 30, 31, 32, 33, 34, 35, 36, 37, 38, 39, 40, 41, 42, 44, 45, 46, 47, 48, 49, 50, 51, 52, 54, 55, 56, 57, 58, 59, 60, 61, 62, 65, 66, 67, 68, 69, 70, 71, 72, 73, 74, 75, 76, 77, 78, 79, 80, 81, 82, 83, 84] [67, 68, 69, 70, 71, 72, 0, 1, 2, 3, 4, 5, 81, 82, 83, 84, 78, 73, 76, 77, 6, 7, 8, 9, 10, 11, 12, 13, 14, 15, 16, 17, 18, 19, 20, 21, 22, 23, 24, 25, 26, 27, 28, 79, 29, 30, 31, 32, 33, 34, 35, 36, 37, 80, 38, 39, 40, 41, 42, 43, 44, 45, 46, 74, 75, 47, 48, 49, 50, 51, 52, 53, 54, 55, 56, 57, 58, 59, 60, 61, 62, 63, 64, 65, 66] rfl rfl (by decide +kernel) (by decide +kernel) (by decide +kernel) (fun _ => rfl) (fun r0 u H locs hw hP hD hS => ?_)
  obtain rfl := hw.symm
  refine W.eq (g2 := F0 m 1339 ls [.int r]) rfl ?_
  refine lv_aload_n hx hb dL_law_1339 rfl (lv_at hl 3 rfl) ?_
  refine lv_aload_n hx hb dL_law_1340 rfl (lv_at hl 1 rfl) ?_
  refine lv_iload_n hx hb dL_law_1341 rfl (lv_at hl 0 rfl) ?_
  refine lv_iconst (v := nI 1) hx hb dL_law_1342 (by decide) ?_
  refine lv_iadd hx hb dL_law_1343 ?_
  refine va_sld hx hb hX hbl hbA hS (lx_v (k := 1) hi5 (by omega) hL) dL_law_1344 ?_
  rw [← ez1]
  have hPc := hP.sub (ws' := wc_X7_count cy qm (um 0) (um 9) (um 10) (um 2) (um 1) (um 3) (um 4) (um 5) (um 6) (um 7) (um 8) (um 11) (um 12) (nI pe) dp mb mr mh (nI tn) po be so va rd.2.2 wr he sp bc bm l1 l2 l3 torn (nf_a S) lan siz kp) [71, 72, 81, 82, 74] rfl
  have hDc := hD.sub (ws' := wc_X7_count cy qm (um 0) (um 9) (um 10) (um 2) (um 1) (um 3) (um 4) (um 5) (um 6) (um 7) (um 8) (um 11) (um 12) (nI pe) dp mb mr mh (nI tn) po be so va rd.2.2 wr he sp bc bm l1 l2 l3 torn (nf_a S) lan siz kp) [71, 72, 81, 82, 74] (by decide +kernel) rfl
  refine cl_i (fun (u : Unit) => lw_W cy qx ux qm um torn now trial wg0 wg1 wg2 wg3 seen k0 k1 iw0 iw1 is0 is1 (sf 0) (sf 1) (sf 2) (sf 3) tp rd row best (nI pe) dp mb mr mh (nI tn) po be so va rd.2.2 wr he sp bc bm l1 l2 l3 torn (nf_a S) (nf_a N) kp (nf_a Dr) tape row2 best2 heavy byk lan siz cel bef) (va_runV (As := [.int z1]) (rest := [.int r]) (C := RX7) ⟨hx, hb, hml, hown, hts⟩ (c_X7_count l D cy H.size qm (um 0) (um 9) (um 10) (um 2) (um 1) (um 3) (um 4) (um 5) (um 6) (um 7) (um 8) (um 11) (um 12) (nI pe) dp mb mr mh (nI tn) po be so va rd.2.2 wr he sp bc bm l1 l2 l3 torn (nf_a S) lan siz kp z1 (f := 5000) e2) ⟨callB_of 1 hts (wg_law k_1147) rfl rfl rfl (htw _ k_8) (htw _ k_1144) (by decide +kernel) ⟨by decide, by decide⟩, (htw _ k_1145), (htw _ k_1146)⟩ ⟨st_blind, va_recv hK.1 hPc (ci := 7) (q0 := 0) rfl rfl, fun U hU hW => st_pre hK hPc hDc hU hW⟩ rfl rfl hl.1 rfl (lv_room (Nat.le_of_ble_eq_true rfl)) dL_law_1345 ⟨by decide, by decide⟩) hP hD hS hA [71, 72, 81, 82, 74] [0, 1, 2, 3, 4, 5, 6, 7, 8, 9, 10, 11, 12, 13, 14, 15, 16, 17, 18, 19, 20, 21, 22, 23, 24, 25, 26, 27, 28, 29, 30, 31, 32, 33, 34, 35, 36, 37, 38, 39, 40, 41, 42, 43, 44, 45, 46, 47, 48, 49, 50, 51, 52, 53, 54, 55, 56, 57, 58, 59, 60, 61, 62, 63, 64, 65, 66, 67, 68, 69, 70, 73, 75, 76, 77, 78, 79, 80, 83, 84] [0, 1, 2, 3, 4, 5, 6, 7, 8, 9, 10, 11, 12, 13, 14, 15, 16, 17, 18, 19, 20, 21, 22, 23, 24, 25, 26, 27, 28, 29, 30, 31, 32, 33, 34, 35, 36, 37, 38, 39, 40, 41, 42, 43, 44, 45, 46, 47, 48, 49, 50, 51, 52, 53, 54, 55, 56, 57, 58, 59, 60, 61, 62, 63, 64, 65, 66, 67, 68, 69, 70, 80, 81, 71, 84, 72, 73, 74, 75, 76, 77, 82, 83, 78, 79] rfl rfl (by decide +kernel) (by decide +kernel) (by decide +kernel) (fun _ => rfl) (fun r0 u H locs hw hP hD hS => ?_)
  obtain rfl := hw.symm
  refine W.eq (g2 := F0 m 1348 ls [.int r, .int r]) rfl ?_
  refine lv_icmp_eq (tgt := 1353) hx hb dL_law_1348 (by decide) (fun _ => ?_) (fun cc => absurd rfl cc)
  have hR2 : lw_R cy qx ux qm um (lw_W cy qx ux qm um torn now trial wg0 wg1 wg2 wg3 seen k0 k1 iw0 iw1 is0 is1 (sf 0) (sf 1) (sf 2) (sf 3) tp rd row best (nI pe) dp mb mr mh (nI tn) po be so va rd.2.2 wr he sp bc bm l1 l2 l3 torn (nf_a S) (nf_a N) kp (nf_a Dr) tape row2 best2 heavy byk lan siz cel bef) := lw_mk (sf := sf) rfl rfl h1 hi0 hi1 hs4 htp
  exact lx_T C0 kk _ _ _ _ hR2 hP hD hS (lv_sub hl [0, 1, 2, 3] rfl)
