set_option maxHeartbeats 8000000 in
set_option maxRecDepth 100000 in
theorem lp_20 {p : Program} {l : Launch} {e : Env} {s : State} {m : MethodId} {below : List Frame} {meth : Method} {c : Code} {b L : Nat} {xs : Nat → Int32} {D : va_G} {cy : Nat → ClassId} {X : (Nat → Nat) × (Nat → Nat)} {qx qm : Nat} {ux um : Nat → Nat} {i : Nat} (C0 : lx_C p s m meth c b L xs D cy X) (hi5 : i + 5 ≤ L) (kk : lx_G p l e s m below meth c b D cy qx ux qm um (nI i + 5) 18) : lx_G p l e s m below meth c b D cy qx ux qm um (nI i) 714 := by
  intro ws H locs ls hR hP hD hS hl
  obtain ⟨⟨hx, hb, hr0, hml, hown, hts, hX, hbl, hlocks, hgv⟩, hL, hK, hE⟩ := id C0
  have htw := lx_h hts
  have hA : ∀ q : Nat, s.heap.size ≤ q → (fun q : Nat => s.heap.size ≤ q) q := fun _ h => h
  have hbA : ¬ (fun q : Nat => s.heap.size ≤ q) b := Nat.not_le.mpr hbl
  obtain ⟨pe, tn, S, N, Dr, torn, now, trial, wg0, wg1, wg2, wg3, seen, k0, k1, iw0, iw1, is0, is1, sf, tp, rd, row, best, dp, mb, mr, mh, po, be, so, va, wr, he, sp, bc, bm, l1, l2, l3, kp, tape, row2, best2, heavy, byk, lan, siz, cel, bef, rfl, h1, hi0, hi1, hs4, htp⟩ := hR
  obtain ⟨z1, ez1⟩ : ∃ z, z = xs (nI i + nI 1).toNatClampNeg := ⟨_, rfl⟩
  obtain ⟨z2, ez2⟩ : ∃ z, z = xs (nI i + nI 2).toNatClampNeg := ⟨_, rfl⟩
  obtain ⟨r, t2, q, e1, e2⟩ := op_swap (f := 5000) (N := N) (x := he) (y := sp) (t := trial) (bc := bc) (bm := bm) h1 (by decide) z1 z2
  refine lv_aload_n hx hb dL_law_714 rfl (lv_at hl 2 rfl) ?_
  refine lv_aload_n hx hb dL_law_715 rfl (lv_at hl 1 rfl) ?_
  refine lv_iload_n hx hb dL_law_716 rfl (lv_at hl 0 rfl) ?_
  refine lv_iconst (v := nI 1) hx hb dL_law_717 (by decide) ?_
  refine lv_iadd hx hb dL_law_718 ?_
  refine va_sld hx hb hX hbl hbA hS (lx_v (k := 1) hi5 (by omega) hL) dL_law_719 ?_
  rw [← ez1]
  refine lv_aload_n hx hb dL_law_720 rfl (lv_at hl 1 rfl) ?_
  refine lv_iload_n hx hb dL_law_721 rfl (lv_at hl 0 rfl) ?_
  refine lv_iconst (v := nI 2) hx hb dL_law_722 (by decide) ?_
  refine lv_iadd hx hb dL_law_723 ?_
  refine va_sld hx hb hX hbl hbA hS (lx_v (k := 2) hi5 (by omega) hL) dL_law_724 ?_
  rw [← ez2]
  have hPc := hP.sub (ws' := wc_X6_swap cy qx (ux 5) (ux 6) (ux 7) (ux 8) (ux 9) (ux 0) (ux 1) (ux 2) (ux 3) (ux 4) (ux 10) (ux 11) (ux 15) (ux 16) (ux 17) (ux 19) (ux 20) (ux 21) torn trial now) [0, 6, 7, 8, 9, 10, 1, 2, 3, 4, 5] rfl
  have hDc := hD.sub (ws' := wc_X6_swap cy qx (ux 5) (ux 6) (ux 7) (ux 8) (ux 9) (ux 0) (ux 1) (ux 2) (ux 3) (ux 4) (ux 10) (ux 11) (ux 15) (ux 16) (ux 17) (ux 19) (ux 20) (ux 21) torn trial now) [0, 6, 7, 8, 9, 10, 1, 2, 3, 4, 5] (by decide +kernel) rfl
  refine cl_i (fun (u : s_W) => lw_W cy qx ux qm um torn now u wg0 wg1 wg2 wg3 seen k0 k1 iw0 iw1 is0 is1 (sf 0) (sf 1) (sf 2) (sf 3) tp rd row best (nI pe) dp mb mr mh (nI tn) po be so va rd.2.2 wr he sp bc bm l1 l2 l3 torn (nf_a S) (nf_a N) kp (nf_a Dr) tape row2 best2 heavy byk lan siz cel bef) (va_runV (As := [.int z1, .int z2]) (rest := []) (C := RX6) ⟨hx, hb, hml, hown, hts⟩ (c_X6_swap l D cy H.size qx (ux 5) (ux 6) (ux 7) (ux 8) (ux 9) (ux 0) (ux 1) (ux 2) (ux 3) (ux 4) (ux 10) (ux 11) (ux 15) (ux 16) (ux 17) (ux 19) (ux 20) (ux 21) torn trial now z1 z2 (f := 5000) e1) ⟨callB_of 2 hts (wg_law k_537) rfl rfl rfl (htw _ k_1) (htw _ k_534) (by decide +kernel) ⟨by decide, by decide⟩, (htw _ k_535), (htw _ k_536)⟩ ⟨st_blind, va_recv hK.1 hPc (ci := 6) (q0 := 0) rfl rfl, fun U hU hW => st_pre hK hPc hDc hU hW⟩ rfl rfl hl.1 rfl (lv_room (Nat.le_of_ble_eq_true rfl)) dL_law_725 ⟨by decide, by decide⟩) hP hD hS hA [0, 6, 7, 8, 9, 10, 1, 2, 3, 4, 5] [11, 12, 13, 14, 15, 16, 17, 18, 19, 20, 21, 22, 23, 24, 25, 26, 27, 28, 29, 30, 31, 32, 33, 34, 35, 36, 37, 38, 39, 40, 41, 42, 43, 44, 45, 46, 47, 48, 49, 50, 51, 52, 53, 54, 55, 56, 57, 58, 59, 60, 61, 62, 63, 64, 65, 66, 67, 68, 69, 70, 71, 72, 73, 74, 75, 76, 77, 78, 79, 80, 81, 82, 83, 84] [74, 80, 81, 82, 83, 84, 75, 76, 77, 78, 79, 0, 1, 2, 3, 4, 5, 6, 7, 8, 9, 10, 11, 12, 13, 14, 15, 16, 17, 18, 19, 20, 21, 22, 23, 24, 25, 26, 27, 28, 29, 30, 31, 32, 33, 34, 35, 36, 37, 38, 39, 40, 41, 42, 43, 44, 45, 46, 47, 48, 49, 50, 51, 52, 53, 54, 55, 56, 57, 58, 59, 60, 61, 62, 63, 64, 65, 66, 67, 68, 69, 70, 71, 72, 73] rfl rfl (by decide +kernel) (by decide +kernel) (by decide +kernel) (fun _ => rfl) (fun r0 u H locs hw hP hD hS => ?_)
  obtain ⟨rfl, rfl⟩ := hw
  have hP : va_P D vwCl (lw_W cy qx ux qm um torn now t2 wg0 wg1 wg2 wg3 seen k0 k1 iw0 iw1 is0 is1 (sf 0) (sf 1) (sf 2) (sf 3) tp rd row best (nI pe) dp mb mr mh (nI tn) po be so va rd.2.2 wr he sp bc bm l1 l2 l3 torn (nf_a S) (nf_a N) kp (nf_a Dr) tape row2 best2 heavy byk lan siz cel bef) H := hP
  have hD : va_D (fun q : Nat => s.heap.size ≤ q) (lw_W cy qx ux qm um torn now t2 wg0 wg1 wg2 wg3 seen k0 k1 iw0 iw1 is0 is1 (sf 0) (sf 1) (sf 2) (sf 3) tp rd row best (nI pe) dp mb mr mh (nI tn) po be so va rd.2.2 wr he sp bc bm l1 l2 l3 torn (nf_a S) (nf_a N) kp (nf_a Dr) tape row2 best2 heavy byk lan siz cel bef) := hD
  refine W.eq (g2 := F0 m 728 ls [.int r]) rfl ?_
  refine lv_aload_n hx hb dL_law_728 rfl (lv_at hl 3 rfl) ?_
  refine lv_aload_n hx hb dL_law_729 rfl (lv_at hl 1 rfl) ?_
  refine lv_iload_n hx hb dL_law_730 rfl (lv_at hl 0 rfl) ?_
  refine lv_iconst (v := nI 1) hx hb dL_law_731 (by decide) ?_
  refine lv_iadd hx hb dL_law_732 ?_
  refine va_sld hx hb hX hbl hbA hS (lx_v (k := 1) hi5 (by omega) hL) dL_law_733 ?_
  rw [← ez1]
  refine lv_aload_n hx hb dL_law_734 rfl (lv_at hl 1 rfl) ?_
  refine lv_iload_n hx hb dL_law_735 rfl (lv_at hl 0 rfl) ?_
  refine lv_iconst (v := nI 2) hx hb dL_law_736 (by decide) ?_
  refine lv_iadd hx hb dL_law_737 ?_
  refine va_sld hx hb hX hbl hbA hS (lx_v (k := 2) hi5 (by omega) hL) dL_law_738 ?_
  rw [← ez2]
  have hPc := hP.sub (ws' := wc_X7_swap cy qm (um 0) (um 1) (um 2) (um 3) (um 4) (um 5) (um 6) (um 7) (um 8) (um 9) (um 10) (um 11) (um 12) (nI pe) dp mb mr mh (nI tn) po be so va rd.2.2 wr he sp bc bm l1 l2 l3 torn (nf_a S) (nf_a N)) [71, 72, 73] rfl
  have hDc := hD.sub (ws' := wc_X7_swap cy qm (um 0) (um 1) (um 2) (um 3) (um 4) (um 5) (um 6) (um 7) (um 8) (um 9) (um 10) (um 11) (um 12) (nI pe) dp mb mr mh (nI tn) po be so va rd.2.2 wr he sp bc bm l1 l2 l3 torn (nf_a S) (nf_a N)) [71, 72, 73] (by decide +kernel) rfl
  refine cl_i (fun (u : Int32 × Int32 × Int32 × Int32 × (Nat → Int32)) => lw_W cy qx ux qm um torn now t2 wg0 wg1 wg2 wg3 seen k0 k1 iw0 iw1 is0 is1 (sf 0) (sf 1) (sf 2) (sf 3) tp rd row best (nI pe) dp mb mr mh (nI tn) po be so va rd.2.2 wr u.1 u.2.1 u.2.2.1 u.2.2.2.1 l1 l2 l3 torn (nf_a S) u.2.2.2.2 kp (nf_a Dr) tape row2 best2 heavy byk lan siz cel bef) (va_runV (As := [.int z1, .int z2]) (rest := [.int r]) (C := RX7) ⟨hx, hb, hml, hown, hts⟩ (c_X7_swap l D cy H.size qm (um 0) (um 1) (um 2) (um 3) (um 4) (um 5) (um 6) (um 7) (um 8) (um 9) (um 10) (um 11) (um 12) (nI pe) dp mb mr mh (nI tn) po be so va rd.2.2 wr he sp bc bm l1 l2 l3 torn (nf_a S) (nf_a N) z1 z2 (f := 5000) e2) ⟨callB_of 2 hts (wg_law k_1043) rfl rfl rfl (htw _ k_8) (htw _ k_1040) (by decide +kernel) ⟨by decide, by decide⟩, (htw _ k_1041), (htw _ k_1042)⟩ ⟨st_blind, va_recv hK.1 hPc (ci := 7) (q0 := 0) rfl rfl, fun U hU hW => st_pre hK hPc hDc hU hW⟩ rfl rfl hl.1 rfl (lv_room (Nat.le_of_ble_eq_true rfl)) dL_law_739 ⟨by decide, by decide⟩) hP hD hS hA [71, 72, 73] [0, 1, 2, 3, 4, 5, 6, 7, 8, 9, 10, 11, 12, 13, 14, 15, 16, 17, 18, 19, 20, 21, 22, 23, 24, 25, 26, 27, 28, 29, 30, 31, 32, 33, 34, 35, 36, 37, 38, 39, 40, 41, 42, 43, 44, 45, 46, 47, 48, 49, 50, 51, 52, 53, 54, 55, 56, 57, 58, 59, 60, 61, 62, 63, 64, 65, 66, 67, 68, 69, 70, 74, 75, 76, 77, 78, 79, 80, 81, 82, 83, 84] [0, 1, 2, 3, 4, 5, 6, 7, 8, 9, 10, 11, 12, 13, 14, 15, 16, 17, 18, 19, 20, 21, 22, 23, 24, 25, 26, 27, 28, 29, 30, 31, 32, 33, 34, 35, 36, 37, 38, 39, 40, 41, 42, 43, 44, 45, 46, 47, 48, 49, 50, 51, 52, 53, 54, 55, 56, 57, 58, 59, 60, 61, 62, 63, 64, 65, 66, 67, 68, 69, 70, 82, 83, 84, 71, 72, 73, 74, 75, 76, 77, 78, 79, 80, 81] rfl rfl (by decide +kernel) (by decide +kernel) (by decide +kernel) (fun _ => rfl) (fun r0 u H locs hw hP hD hS => ?_)
  obtain ⟨rfl, rfl⟩ := hw
  have hP : va_P D vwCl (lw_W cy qx ux qm um torn now t2 wg0 wg1 wg2 wg3 seen k0 k1 iw0 iw1 is0 is1 (sf 0) (sf 1) (sf 2) (sf 3) tp rd row best (nI pe) dp mb mr mh (nI tn) po be so va rd.2.2 wr q.1 q.2.1 q.2.2.1 q.2.2.2.1 l1 l2 l3 torn (nf_a S) q.2.2.2.2 kp (nf_a Dr) tape row2 best2 heavy byk lan siz cel bef) H := hP
  have hD : va_D (fun q : Nat => s.heap.size ≤ q) (lw_W cy qx ux qm um torn now t2 wg0 wg1 wg2 wg3 seen k0 k1 iw0 iw1 is0 is1 (sf 0) (sf 1) (sf 2) (sf 3) tp rd row best (nI pe) dp mb mr mh (nI tn) po be so va rd.2.2 wr q.1 q.2.1 q.2.2.1 q.2.2.2.1 l1 l2 l3 torn (nf_a S) q.2.2.2.2 kp (nf_a Dr) tape row2 best2 heavy byk lan siz cel bef) := hD
  refine W.eq (g2 := F0 m 742 ls [.int r, .int r]) rfl ?_
  refine lv_icmp_eq (tgt := 1353) hx hb dL_law_742 (by decide) (fun _ => ?_) (fun cc => absurd rfl cc)
  have hR2 : lw_R cy qx ux qm um (lw_W cy qx ux qm um torn now t2 wg0 wg1 wg2 wg3 seen k0 k1 iw0 iw1 is0 is1 (sf 0) (sf 1) (sf 2) (sf 3) tp rd row best (nI pe) dp mb mr mh (nI tn) po be so va rd.2.2 wr q.1 q.2.1 q.2.2.1 q.2.2.2.1 l1 l2 l3 torn (nf_a S) q.2.2.2.2 kp (nf_a Dr) tape row2 best2 heavy byk lan siz cel bef) := lw_mk (sf := sf) rfl rfl h1 hi0 hi1 hs4 htp
  exact lx_T C0 kk _ _ _ _ hR2 hP hD hS (lv_sub hl [0, 1, 2, 3] rfl)
set_option maxHeartbeats 8000000 in
set_option maxRecDepth 100000 in
theorem lp_21 {p : Program} {l : Launch} {e : Env} {s : State} {m : MethodId} {below : List Frame} {meth : Method} {c : Code} {b L : Nat} {xs : Nat → Int32} {D : va_G} {cy : Nat → ClassId} {X : (Nat → Nat) × (Nat → Nat)} {qx qm : Nat} {ux um : Nat → Nat} {i : Nat} (C0 : lx_C p s m meth c b L xs D cy X) (hi5 : i + 5 ≤ L) (kk : lx_G p l e s m below meth c b D cy qx ux qm um (nI i + 5) 18) : lx_G p l e s m below meth c b D cy qx ux qm um (nI i) 747 := by
  intro ws H locs ls hR hP hD hS hl
  obtain ⟨⟨hx, hb, hr0, hml, hown, hts, hX, hbl, hlocks, hgv⟩, hL, hK, hE⟩ := id C0
  have htw := lx_h hts
  have hA : ∀ q : Nat, s.heap.size ≤ q → (fun q : Nat => s.heap.size ≤ q) q := fun _ h => h
  have hbA : ¬ (fun q : Nat => s.heap.size ≤ q) b := Nat.not_le.mpr hbl
  obtain ⟨pe, tn, S, N, Dr, torn, now, trial, wg0, wg1, wg2, wg3, seen, k0, k1, iw0, iw1, is0, is1, sf, tp, rd, row, best, dp, mb, mr, mh, po, be, so, va, wr, he, sp, bc, bm, l1, l2, l3, kp, tape, row2, best2, heavy, byk, lan, siz, cel, bef, rfl, h1, hi0, hi1, hs4, htp⟩ := hR
  obtain ⟨z1, ez1⟩ : ∃ z, z = xs (nI i + nI 1).toNatClampNeg := ⟨_, rfl⟩
  obtain ⟨r, t2, q, e1, e2⟩ := op_most (f := 5000) (N := N) (x := he) (y := sp) (t := trial) h1 (by decide) z1
  refine lv_aload_n hx hb dL_law_747 rfl (lv_at hl 2 rfl) ?_
  refine lv_aload_n hx hb dL_law_748 rfl (lv_at hl 1 rfl) ?_
  refine lv_iload_n hx hb dL_law_749 rfl (lv_at hl 0 rfl) ?_
  refine lv_iconst (v := nI 1) hx hb dL_law_750 (by decide) ?_
  refine lv_iadd hx hb dL_law_751 ?_
  refine va_sld hx hb hX hbl hbA hS (lx_v (k := 1) hi5 (by omega) hL) dL_law_752 ?_
  rw [← ez1]
  have hPc := hP.sub (ws' := wc_X6_most cy qx (ux 5) (ux 6) (ux 7) (ux 8) (ux 9) (ux 0) (ux 1) (ux 2) (ux 3) (ux 4) (ux 10) (ux 11) (ux 15) (ux 16) (ux 17) (ux 19) (ux 20) (ux 21) torn trial now) [0, 6, 7, 8, 9, 10, 1, 2, 3, 4, 5] rfl
  have hDc := hD.sub (ws' := wc_X6_most cy qx (ux 5) (ux 6) (ux 7) (ux 8) (ux 9) (ux 0) (ux 1) (ux 2) (ux 3) (ux 4) (ux 10) (ux 11) (ux 15) (ux 16) (ux 17) (ux 19) (ux 20) (ux 21) torn trial now) [0, 6, 7, 8, 9, 10, 1, 2, 3, 4, 5] (by decide +kernel) rfl
  refine cl_i (fun (u : s_W) => lw_W cy qx ux qm um torn now u wg0 wg1 wg2 wg3 seen k0 k1 iw0 iw1 is0 is1 (sf 0) (sf 1) (sf 2) (sf 3) tp rd row best (nI pe) dp mb mr mh (nI tn) po be so va rd.2.2 wr he sp bc bm l1 l2 l3 torn (nf_a S) (nf_a N) kp (nf_a Dr) tape row2 best2 heavy byk lan siz cel bef) (va_runV (As := [.int z1]) (rest := []) (C := RX6) ⟨hx, hb, hml, hown, hts⟩ (c_X6_most l D cy H.size qx (ux 5) (ux 6) (ux 7) (ux 8) (ux 9) (ux 0) (ux 1) (ux 2) (ux 3) (ux 4) (ux 10) (ux 11) (ux 15) (ux 16) (ux 17) (ux 19) (ux 20) (ux 21) torn trial now z1 (f := 5000) e1) ⟨callB_of 1 hts (wg_law k_541) rfl rfl rfl (htw _ k_1) (htw _ k_538) (by decide +kernel) ⟨by decide, by decide⟩, (htw _ k_539), (htw _ k_540)⟩ ⟨st_blind, va_recv hK.1 hPc (ci := 6) (q0 := 0) rfl rfl, fun U hU hW => st_pre hK hPc hDc hU hW⟩ rfl rfl hl.1 rfl (lv_room (Nat.le_of_ble_eq_true rfl)) dL_law_753 ⟨by decide, by decide⟩) hP hD hS hA [0, 6, 7, 8, 9, 10, 1, 2, 3, 4, 5] [11, 12, 13, 14, 15, 16, 17, 18, 19, 20, 21, 22, 23, 24, 25, 26, 27, 28, 29, 30, 31, 32, 33, 34, 35, 36, 37, 38, 39, 40, 41, 42, 43, 44, 45, 46, 47, 48, 49, 50, 51, 52, 53, 54, 55, 56, 57, 58, 59, 60, 61, 62, 63, 64, 65, 66, 67, 68, 69, 70, 71, 72, 73, 74, 75, 76, 77, 78, 79, 80, 81, 82, 83, 84] [74, 80, 81, 82, 83, 84, 75, 76, 77, 78, 79, 0, 1, 2, 3, 4, 5, 6, 7, 8, 9, 10, 11, 12, 13, 14, 15, 16, 17, 18, 19, 20, 21, 22, 23, 24, 25, 26, 27, 28, 29, 30, 31, 32, 33, 34, 35, 36, 37, 38, 39, 40, 41, 42, 43, 44, 45, 46, 47, 48, 49, 50, 51, 52, 53, 54, 55, 56, 57, 58, 59, 60, 61, 62, 63, 64, 65, 66, 67, 68, 69, 70, 71, 72, 73] rfl rfl (by decide +kernel) (by decide +kernel) (by decide +kernel) (fun _ => rfl) (fun r0 u H locs hw hP hD hS => ?_)
  obtain ⟨rfl, rfl⟩ := hw
  have hP : va_P D vwCl (lw_W cy qx ux qm um torn now t2 wg0 wg1 wg2 wg3 seen k0 k1 iw0 iw1 is0 is1 (sf 0) (sf 1) (sf 2) (sf 3) tp rd row best (nI pe) dp mb mr mh (nI tn) po be so va rd.2.2 wr he sp bc bm l1 l2 l3 torn (nf_a S) (nf_a N) kp (nf_a Dr) tape row2 best2 heavy byk lan siz cel bef) H := hP
  have hD : va_D (fun q : Nat => s.heap.size ≤ q) (lw_W cy qx ux qm um torn now t2 wg0 wg1 wg2 wg3 seen k0 k1 iw0 iw1 is0 is1 (sf 0) (sf 1) (sf 2) (sf 3) tp rd row best (nI pe) dp mb mr mh (nI tn) po be so va rd.2.2 wr he sp bc bm l1 l2 l3 torn (nf_a S) (nf_a N) kp (nf_a Dr) tape row2 best2 heavy byk lan siz cel bef) := hD
  refine W.eq (g2 := F0 m 756 ls [.int r]) rfl ?_
  refine lv_aload_n hx hb dL_law_756 rfl (lv_at hl 3 rfl) ?_
  refine lv_aload_n hx hb dL_law_757 rfl (lv_at hl 1 rfl) ?_
  refine lv_iload_n hx hb dL_law_758 rfl (lv_at hl 0 rfl) ?_
  refine lv_iconst (v := nI 1) hx hb dL_law_759 (by decide) ?_
  refine lv_iadd hx hb dL_law_760 ?_
  refine va_sld hx hb hX hbl hbA hS (lx_v (k := 1) hi5 (by omega) hL) dL_law_761 ?_
  rw [← ez1]
  have hPc := hP.sub (ws' := wc_X7_most cy qm (um 0) (um 1) (um 2) (um 3) (um 4) (um 5) (um 6) (um 7) (um 8) (um 9) (um 10) (um 11) (um 12) (nI pe) dp mb mr mh (nI tn) po be so va rd.2.2 wr he sp bc bm l1 l2 l3 torn (nf_a S) (nf_a N)) [71, 72, 73] rfl
  have hDc := hD.sub (ws' := wc_X7_most cy qm (um 0) (um 1) (um 2) (um 3) (um 4) (um 5) (um 6) (um 7) (um 8) (um 9) (um 10) (um 11) (um 12) (nI pe) dp mb mr mh (nI tn) po be so va rd.2.2 wr he sp bc bm l1 l2 l3 torn (nf_a S) (nf_a N)) [71, 72, 73] (by decide +kernel) rfl
  refine cl_i (fun (u : Int32 × Int32 × (Nat → Int32)) => lw_W cy qx ux qm um torn now t2 wg0 wg1 wg2 wg3 seen k0 k1 iw0 iw1 is0 is1 (sf 0) (sf 1) (sf 2) (sf 3) tp rd row best (nI pe) dp mb mr mh (nI tn) po be so va rd.2.2 wr u.1 u.2.1 bc bm l1 l2 l3 torn (nf_a S) u.2.2 kp (nf_a Dr) tape row2 best2 heavy byk lan siz cel bef) (va_runV (As := [.int z1]) (rest := [.int r]) (C := RX7) ⟨hx, hb, hml, hown, hts⟩ (c_X7_most l D cy H.size qm (um 0) (um 1) (um 2) (um 3) (um 4) (um 5) (um 6) (um 7) (um 8) (um 9) (um 10) (um 11) (um 12) (nI pe) dp mb mr mh (nI tn) po be so va rd.2.2 wr he sp bc bm l1 l2 l3 torn (nf_a S) (nf_a N) z1 (f := 5000) e2) ⟨callB_of 1 hts (wg_law k_1047) rfl rfl rfl (htw _ k_8) (htw _ k_1044) (by decide +kernel) ⟨by decide, by decide⟩, (htw _ k_1045), (htw _ k_1046)⟩ ⟨st_blind, va_recv hK.1 hPc (ci := 7) (q0 := 0) rfl rfl, fun U hU hW => st_pre hK hPc hDc hU hW⟩ rfl rfl hl.1 rfl (lv_room (Nat.le_of_ble_eq_true rfl)) dL_law_762 ⟨by decide, by decide⟩) hP hD hS hA [71, 72, 73] [0, 1, 2, 3, 4, 5, 6, 7, 8, 9, 10, 11, 12, 13, 14, 15, 16, 17, 18, 19, 20, 21, 22, 23, 24, 25, 26, 27, 28, 29, 30, 31, 32, 33, 34, 35, 36, 37, 38, 39, 40, 41, 42, 43, 44, 45, 46, 47, 48, 49, 50, 51, 52, 53, 54, 55, 56, 57, 58, 59, 60, 61, 62, 63, 64, 65, 66, 67, 68, 69, 70, 74, 75, 76, 77, 78, 79, 80, 81, 82, 83, 84] [0, 1, 2, 3, 4, 5, 6, 7, 8, 9, 10, 11, 12, 13, 14, 15, 16, 17, 18, 19, 20, 21, 22, 23, 24, 25, 26, 27, 28, 29, 30, 31, 32, 33, 34, 35, 36, 37, 38, 39, 40, 41, 42, 43, 44, 45, 46, 47, 48, 49, 50, 51, 52, 53, 54, 55, 56, 57, 58, 59, 60, 61, 62, 63, 64, 65, 66, 67, 68, 69, 70, 82, 83, 84, 71, 72, 73, 74, 75, 76, 77, 78, 79, 80, 81] rfl rfl (by decide +kernel) (by decide +kernel) (by decide +kernel) (fun _ => rfl) (fun r0 u H locs hw hP hD hS => ?_)
  obtain ⟨rfl, rfl⟩ := hw
  have hP : va_P D vwCl (lw_W cy qx ux qm um torn now t2 wg0 wg1 wg2 wg3 seen k0 k1 iw0 iw1 is0 is1 (sf 0) (sf 1) (sf 2) (sf 3) tp rd row best (nI pe) dp mb mr mh (nI tn) po be so va rd.2.2 wr q.1 q.2.1 bc bm l1 l2 l3 torn (nf_a S) q.2.2 kp (nf_a Dr) tape row2 best2 heavy byk lan siz cel bef) H := hP
  have hD : va_D (fun q : Nat => s.heap.size ≤ q) (lw_W cy qx ux qm um torn now t2 wg0 wg1 wg2 wg3 seen k0 k1 iw0 iw1 is0 is1 (sf 0) (sf 1) (sf 2) (sf 3) tp rd row best (nI pe) dp mb mr mh (nI tn) po be so va rd.2.2 wr q.1 q.2.1 bc bm l1 l2 l3 torn (nf_a S) q.2.2 kp (nf_a Dr) tape row2 best2 heavy byk lan siz cel bef) := hD
  refine W.eq (g2 := F0 m 765 ls [.int r, .int r]) rfl ?_
  refine lv_icmp_eq (tgt := 1353) hx hb dL_law_765 (by decide) (fun _ => ?_) (fun cc => absurd rfl cc)
  have hR2 : lw_R cy qx ux qm um (lw_W cy qx ux qm um torn now t2 wg0 wg1 wg2 wg3 seen k0 k1 iw0 iw1 is0 is1 (sf 0) (sf 1) (sf 2) (sf 3) tp rd row best (nI pe) dp mb mr mh (nI tn) po be so va rd.2.2 wr q.1 q.2.1 bc bm l1 l2 l3 torn (nf_a S) q.2.2 kp (nf_a Dr) tape row2 best2 heavy byk lan siz cel bef) := lw_mk (sf := sf) rfl rfl h1 hi0 hi1 hs4 htp
  exact lx_T C0 kk _ _ _ _ hR2 hP hD hS (lv_sub hl [0, 1, 2, 3] rfl)
set_option maxHeartbeats 8000000 in
set_option maxRecDepth 100000 in
theorem lp_22 {p : Program} {l : Launch} {e : Env} {s : State} {m : MethodId} {below : List Frame} {meth : Method} {c : Code} {b L : Nat} {xs : Nat → Int32} {D : va_G} {cy : Nat → ClassId} {X : (Nat → Nat) × (Nat → Nat)} {qx qm : Nat} {ux um : Nat → Nat} {i : Nat} (C0 : lx_C p s m meth c b L xs D cy X) (hi5 : i + 5 ≤ L) (kk : lx_G p l e s m below meth c b D cy qx ux qm um (nI i + 5) 18) : lx_G p l e s m below meth c b D cy qx ux qm um (nI i) 770 := by
  intro ws H locs ls hR hP hD hS hl
  obtain ⟨⟨hx, hb, hr0, hml, hown, hts, hX, hbl, hlocks, hgv⟩, hL, hK, hE⟩ := id C0
  have htw := lx_h hts
  have hA : ∀ q : Nat, s.heap.size ≤ q → (fun q : Nat => s.heap.size ≤ q) q := fun _ h => h
  have hbA : ¬ (fun q : Nat => s.heap.size ≤ q) b := Nat.not_le.mpr hbl
  obtain ⟨pe, tn, S, N, Dr, torn, now, trial, wg0, wg1, wg2, wg3, seen, k0, k1, iw0, iw1, is0, is1, sf, tp, rd, row, best, dp, mb, mr, mh, po, be, so, va, wr, he, sp, bc, bm, l1, l2, l3, kp, tape, row2, best2, heavy, byk, lan, siz, cel, bef, rfl, h1, hi0, hi1, hs4, htp⟩ := hR
  obtain ⟨z1, ez1⟩ : ∃ z, z = xs (nI i + nI 1).toNatClampNeg := ⟨_, rfl⟩
  obtain ⟨z2, ez2⟩ : ∃ z, z = xs (nI i + nI 2).toNatClampNeg := ⟨_, rfl⟩
  obtain ⟨r, t2, q, e1, e2⟩ := op_need (f := 5000) (N := N) (x := he) (y := sp) (t := trial) h1 (by decide) z1 z2
  refine lv_aload_n hx hb dL_law_770 rfl (lv_at hl 2 rfl) ?_
  refine lv_aload_n hx hb dL_law_771 rfl (lv_at hl 1 rfl) ?_
  refine lv_iload_n hx hb dL_law_772 rfl (lv_at hl 0 rfl) ?_
  refine lv_iconst (v := nI 1) hx hb dL_law_773 (by decide) ?_
  refine lv_iadd hx hb dL_law_774 ?_
  refine va_sld hx hb hX hbl hbA hS (lx_v (k := 1) hi5 (by omega) hL) dL_law_775 ?_
  rw [← ez1]
  refine lv_aload_n hx hb dL_law_776 rfl (lv_at hl 1 rfl) ?_
  refine lv_iload_n hx hb dL_law_777 rfl (lv_at hl 0 rfl) ?_
  refine lv_iconst (v := nI 2) hx hb dL_law_778 (by decide) ?_
  refine lv_iadd hx hb dL_law_779 ?_
  refine va_sld hx hb hX hbl hbA hS (lx_v (k := 2) hi5 (by omega) hL) dL_law_780 ?_
  rw [← ez2]
  have hPc := hP.sub (ws' := wc_X6_need cy qx (ux 0) (ux 1) (ux 2) (ux 3) (ux 4) (ux 5) (ux 6) (ux 7) (ux 8) (ux 9) (ux 10) (ux 11) (ux 15) (ux 16) (ux 17) (ux 19) (ux 20) (ux 21) torn now trial) [0, 1, 2, 3, 4, 5, 6, 7, 8, 9, 10] rfl
  have hDc := hD.sub (ws' := wc_X6_need cy qx (ux 0) (ux 1) (ux 2) (ux 3) (ux 4) (ux 5) (ux 6) (ux 7) (ux 8) (ux 9) (ux 10) (ux 11) (ux 15) (ux 16) (ux 17) (ux 19) (ux 20) (ux 21) torn now trial) [0, 1, 2, 3, 4, 5, 6, 7, 8, 9, 10] (by decide +kernel) rfl
  refine cl_i (fun (u : s_W) => lw_W cy qx ux qm um torn now u wg0 wg1 wg2 wg3 seen k0 k1 iw0 iw1 is0 is1 (sf 0) (sf 1) (sf 2) (sf 3) tp rd row best (nI pe) dp mb mr mh (nI tn) po be so va rd.2.2 wr he sp bc bm l1 l2 l3 torn (nf_a S) (nf_a N) kp (nf_a Dr) tape row2 best2 heavy byk lan siz cel bef) (va_runV (As := [.int z1, .int z2]) (rest := []) (C := RX6) ⟨hx, hb, hml, hown, hts⟩ (c_X6_need l D cy H.size qx (ux 0) (ux 1) (ux 2) (ux 3) (ux 4) (ux 5) (ux 6) (ux 7) (ux 8) (ux 9) (ux 10) (ux 11) (ux 15) (ux 16) (ux 17) (ux 19) (ux 20) (ux 21) torn now trial z1 z2 (f := 5000) e1) ⟨callB_of 2 hts (wg_law k_549) rfl rfl rfl (htw _ k_1) (htw _ k_546) (by decide +kernel) ⟨by decide, by decide⟩, (htw _ k_547), (htw _ k_548)⟩ ⟨st_blind, va_recv hK.1 hPc (ci := 6) (q0 := 0) rfl rfl, fun U hU hW => st_pre hK hPc hDc hU hW⟩ rfl rfl hl.1 rfl (lv_room (Nat.le_of_ble_eq_true rfl)) dL_law_781 ⟨by decide, by decide⟩) hP hD hS hA [0, 1, 2, 3, 4, 5, 6, 7, 8, 9, 10] [11, 12, 13, 14, 15, 16, 17, 18, 19, 20, 21, 22, 23, 24, 25, 26, 27, 28, 29, 30, 31, 32, 33, 34, 35, 36, 37, 38, 39, 40, 41, 42, 43, 44, 45, 46, 47, 48, 49, 50, 51, 52, 53, 54, 55, 56, 57, 58, 59, 60, 61, 62, 63, 64, 65, 66, 67, 68, 69, 70, 71, 72, 73, 74, 75, 76, 77, 78, 79, 80, 81, 82, 83, 84] [74, 75, 76, 77, 78, 79, 80, 81, 82, 83, 84, 0, 1, 2, 3, 4, 5, 6, 7, 8, 9, 10, 11, 12, 13, 14, 15, 16, 17, 18, 19, 20, 21, 22, 23, 24, 25, 26, 27, 28, 29, 30, 31, 32, 33, 34, 35, 36, 37, 38, 39, 40, 41, 42, 43, 44, 45, 46, 47, 48, 49, 50, 51, 52, 53, 54, 55, 56, 57, 58, 59, 60, 61, 62, 63, 64, 65, 66, 67, 68, 69, 70, 71, 72, 73] rfl rfl (by decide +kernel) (by decide +kernel) (by decide +kernel) (fun _ => rfl) (fun r0 u H locs hw hP hD hS => ?_)
  obtain ⟨rfl, rfl⟩ := hw
  have hP : va_P D vwCl (lw_W cy qx ux qm um torn now t2 wg0 wg1 wg2 wg3 seen k0 k1 iw0 iw1 is0 is1 (sf 0) (sf 1) (sf 2) (sf 3) tp rd row best (nI pe) dp mb mr mh (nI tn) po be so va rd.2.2 wr he sp bc bm l1 l2 l3 torn (nf_a S) (nf_a N) kp (nf_a Dr) tape row2 best2 heavy byk lan siz cel bef) H := hP
  have hD : va_D (fun q : Nat => s.heap.size ≤ q) (lw_W cy qx ux qm um torn now t2 wg0 wg1 wg2 wg3 seen k0 k1 iw0 iw1 is0 is1 (sf 0) (sf 1) (sf 2) (sf 3) tp rd row best (nI pe) dp mb mr mh (nI tn) po be so va rd.2.2 wr he sp bc bm l1 l2 l3 torn (nf_a S) (nf_a N) kp (nf_a Dr) tape row2 best2 heavy byk lan siz cel bef) := hD
  refine W.eq (g2 := F0 m 784 ls [.int r]) rfl ?_
  refine lv_aload_n hx hb dL_law_784 rfl (lv_at hl 3 rfl) ?_
  refine lv_aload_n hx hb dL_law_785 rfl (lv_at hl 1 rfl) ?_
  refine lv_iload_n hx hb dL_law_786 rfl (lv_at hl 0 rfl) ?_
  refine lv_iconst (v := nI 1) hx hb dL_law_787 (by decide) ?_
  refine lv_iadd hx hb dL_law_788 ?_
  refine va_sld hx hb hX hbl hbA hS (lx_v (k := 1) hi5 (by omega) hL) dL_law_789 ?_
  rw [← ez1]
  refine lv_aload_n hx hb dL_law_790 rfl (lv_at hl 1 rfl) ?_
  refine lv_iload_n hx hb dL_law_791 rfl (lv_at hl 0 rfl) ?_
  refine lv_iconst (v := nI 2) hx hb dL_law_792 (by decide) ?_
  refine lv_iadd hx hb dL_law_793 ?_
  refine va_sld hx hb hX hbl hbA hS (lx_v (k := 2) hi5 (by omega) hL) dL_law_794 ?_
  rw [← ez2]
  have hPc := hP.sub (ws' := wc_X7_need cy qm (um 0) (um 1) (um 2) (um 3) (um 4) (um 5) (um 6) (um 7) (um 8) (um 9) (um 10) (um 11) (um 12) (nI pe) dp mb mr mh (nI tn) po be so va rd.2.2 wr he sp bc bm l1 l2 l3 torn (nf_a S) (nf_a N)) [71, 72, 73] rfl
  have hDc := hD.sub (ws' := wc_X7_need cy qm (um 0) (um 1) (um 2) (um 3) (um 4) (um 5) (um 6) (um 7) (um 8) (um 9) (um 10) (um 11) (um 12) (nI pe) dp mb mr mh (nI tn) po be so va rd.2.2 wr he sp bc bm l1 l2 l3 torn (nf_a S) (nf_a N)) [71, 72, 73] (by decide +kernel) rfl
  refine cl_i (fun (u : Int32 × Int32 × (Nat → Int32)) => lw_W cy qx ux qm um torn now t2 wg0 wg1 wg2 wg3 seen k0 k1 iw0 iw1 is0 is1 (sf 0) (sf 1) (sf 2) (sf 3) tp rd row best (nI pe) dp mb mr mh (nI tn) po be so va rd.2.2 wr u.1 u.2.1 bc bm l1 l2 l3 torn (nf_a S) u.2.2 kp (nf_a Dr) tape row2 best2 heavy byk lan siz cel bef) (va_runV (As := [.int z1, .int z2]) (rest := [.int r]) (C := RX7) ⟨hx, hb, hml, hown, hts⟩ (c_X7_need l D cy H.size qm (um 0) (um 1) (um 2) (um 3) (um 4) (um 5) (um 6) (um 7) (um 8) (um 9) (um 10) (um 11) (um 12) (nI pe) dp mb mr mh (nI tn) po be so va rd.2.2 wr he sp bc bm l1 l2 l3 torn (nf_a S) (nf_a N) z1 z2 (f := 5000) e2) ⟨callB_of 2 hts (wg_law k_1051) rfl rfl rfl (htw _ k_8) (htw _ k_1048) (by decide +kernel) ⟨by decide, by decide⟩, (htw _ k_1049), (htw _ k_1050)⟩ ⟨st_blind, va_recv hK.1 hPc (ci := 7) (q0 := 0) rfl rfl, fun U hU hW => st_pre hK hPc hDc hU hW⟩ rfl rfl hl.1 rfl (lv_room (Nat.le_of_ble_eq_true rfl)) dL_law_795 ⟨by decide, by decide⟩) hP hD hS hA [71, 72, 73] [0, 1, 2, 3, 4, 5, 6, 7, 8, 9, 10, 11, 12, 13, 14, 15, 16, 17, 18, 19, 20, 21, 22, 23, 24, 25, 26, 27, 28, 29, 30, 31, 32, 33, 34, 35, 36, 37, 38, 39, 40, 41, 42, 43, 44, 45, 46, 47, 48, 49, 50, 51, 52, 53, 54, 55, 56, 57, 58, 59, 60, 61, 62, 63, 64, 65, 66, 67, 68, 69, 70, 74, 75, 76, 77, 78, 79, 80, 81, 82, 83, 84] [0, 1, 2, 3, 4, 5, 6, 7, 8, 9, 10, 11, 12, 13, 14, 15, 16, 17, 18, 19, 20, 21, 22, 23, 24, 25, 26, 27, 28, 29, 30, 31, 32, 33, 34, 35, 36, 37, 38, 39, 40, 41, 42, 43, 44, 45, 46, 47, 48, 49, 50, 51, 52, 53, 54, 55, 56, 57, 58, 59, 60, 61, 62, 63, 64, 65, 66, 67, 68, 69, 70, 82, 83, 84, 71, 72, 73, 74, 75, 76, 77, 78, 79, 80, 81] rfl rfl (by decide +kernel) (by decide +kernel) (by decide +kernel) (fun _ => rfl) (fun r0 u H locs hw hP hD hS => ?_)
  obtain ⟨rfl, rfl⟩ := hw
  have hP : va_P D vwCl (lw_W cy qx ux qm um torn now t2 wg0 wg1 wg2 wg3 seen k0 k1 iw0 iw1 is0 is1 (sf 0) (sf 1) (sf 2) (sf 3) tp rd row best (nI pe) dp mb mr mh (nI tn) po be so va rd.2.2 wr q.1 q.2.1 bc bm l1 l2 l3 torn (nf_a S) q.2.2 kp (nf_a Dr) tape row2 best2 heavy byk lan siz cel bef) H := hP
  have hD : va_D (fun q : Nat => s.heap.size ≤ q) (lw_W cy qx ux qm um torn now t2 wg0 wg1 wg2 wg3 seen k0 k1 iw0 iw1 is0 is1 (sf 0) (sf 1) (sf 2) (sf 3) tp rd row best (nI pe) dp mb mr mh (nI tn) po be so va rd.2.2 wr q.1 q.2.1 bc bm l1 l2 l3 torn (nf_a S) q.2.2 kp (nf_a Dr) tape row2 best2 heavy byk lan siz cel bef) := hD
  refine W.eq (g2 := F0 m 798 ls [.int r, .int r]) rfl ?_
  refine lv_icmp_eq (tgt := 1353) hx hb dL_law_798 (by decide) (fun _ => ?_) (fun cc => absurd rfl cc)
  have hR2 : lw_R cy qx ux qm um (lw_W cy qx ux qm um torn now t2 wg0 wg1 wg2 wg3 seen k0 k1 iw0 iw1 is0 is1 (sf 0) (sf 1) (sf 2) (sf 3) tp rd row best (nI pe) dp mb mr mh (nI tn) po be so va rd.2.2 wr q.1 q.2.1 bc bm l1 l2 l3 torn (nf_a S) q.2.2 kp (nf_a Dr) tape row2 best2 heavy byk lan siz cel bef) := lw_mk (sf := sf) rfl rfl h1 hi0 hi1 hs4 htp
  exact lx_T C0 kk _ _ _ _ hR2 hP hD hS (lv_sub hl [0, 1, 2, 3] rfl)
set_option maxHeartbeats 8000000 in
set_option maxRecDepth 100000 in
theorem lp_23 {p : Program} {l : Launch} {e : Env} {s : State} {m : MethodId} {below : List Frame} {meth : Method} {c : Code} {b L : Nat} {xs : Nat → Int32} {D : va_G} {cy : Nat → ClassId} {X : (Nat → Nat) × (Nat → Nat)} {qx qm : Nat} {ux um : Nat → Nat} {i : Nat} (C0 : lx_C p s m meth c b L xs D cy X) (hi5 : i + 5 ≤ L) (kk : lx_G p l e s m below meth c b D cy qx ux qm um (nI i + 5) 18) : lx_G p l e s m below meth c b D cy qx ux qm um (nI i) 803 := by
  intro ws H locs ls hR hP hD hS hl
  obtain ⟨⟨hx, hb, hr0, hml, hown, hts, hX, hbl, hlocks, hgv⟩, hL, hK, hE⟩ := id C0
  have htw := lx_h hts
  have hA : ∀ q : Nat, s.heap.size ≤ q → (fun q : Nat => s.heap.size ≤ q) q := fun _ h => h
  have hbA : ¬ (fun q : Nat => s.heap.size ≤ q) b := Nat.not_le.mpr hbl
  obtain ⟨pe, tn, S, N, Dr, torn, now, trial, wg0, wg1, wg2, wg3, seen, k0, k1, iw0, iw1, is0, is1, sf, tp, rd, row, best, dp, mb, mr, mh, po, be, so, va, wr, he, sp, bc, bm, l1, l2, l3, kp, tape, row2, best2, heavy, byk, lan, siz, cel, bef, rfl, h1, hi0, hi1, hs4, htp⟩ := hR
  obtain ⟨z1, ez1⟩ : ∃ z, z = xs (nI i + nI 1).toNatClampNeg := ⟨_, rfl⟩
  obtain ⟨z2, ez2⟩ : ∃ z, z = xs (nI i + nI 2).toNatClampNeg := ⟨_, rfl⟩
  obtain ⟨z3, ez3⟩ : ∃ z, z = xs (nI i + nI 3).toNatClampNeg := ⟨_, rfl⟩
  obtain ⟨r, t2, q, e1, e2⟩ := op_kind (f := 5000) (N := N) (x := he) (y := sp) (t := trial) (bc := bc) (bm := bm) h1 (by decide) z1 z2 z3
  refine lv_aload_n hx hb dL_law_803 rfl (lv_at hl 2 rfl) ?_
  refine lv_aload_n hx hb dL_law_804 rfl (lv_at hl 1 rfl) ?_
  refine lv_iload_n hx hb dL_law_805 rfl (lv_at hl 0 rfl) ?_
  refine lv_iconst (v := nI 1) hx hb dL_law_806 (by decide) ?_
  refine lv_iadd hx hb dL_law_807 ?_
  refine va_sld hx hb hX hbl hbA hS (lx_v (k := 1) hi5 (by omega) hL) dL_law_808 ?_
  rw [← ez1]
  refine lv_aload_n hx hb dL_law_809 rfl (lv_at hl 1 rfl) ?_
  refine lv_iload_n hx hb dL_law_810 rfl (lv_at hl 0 rfl) ?_
  refine lv_iconst (v := nI 2) hx hb dL_law_811 (by decide) ?_
  refine lv_iadd hx hb dL_law_812 ?_
  refine va_sld hx hb hX hbl hbA hS (lx_v (k := 2) hi5 (by omega) hL) dL_law_813 ?_
  rw [← ez2]
  refine lv_aload_n hx hb dL_law_814 rfl (lv_at hl 1 rfl) ?_
  refine lv_iload_n hx hb dL_law_815 rfl (lv_at hl 0 rfl) ?_
  refine lv_iconst (v := nI 3) hx hb dL_law_816 (by decide) ?_
  refine lv_iadd hx hb dL_law_817 ?_
  refine va_sld hx hb hX hbl hbA hS (lx_v (k := 3) hi5 (by omega) hL) dL_law_818 ?_
  rw [← ez3]
  have hPc := hP.sub (ws' := wc_X6_kind cy qx (ux 0) (ux 1) (ux 2) (ux 3) (ux 4) (ux 5) (ux 6) (ux 7) (ux 8) (ux 9) (ux 10) (ux 11) (ux 15) (ux 16) (ux 17) (ux 19) (ux 20) (ux 21) torn now trial) [0, 1, 2, 3, 4, 5, 6, 7, 8, 9, 10] rfl
  have hDc := hD.sub (ws' := wc_X6_kind cy qx (ux 0) (ux 1) (ux 2) (ux 3) (ux 4) (ux 5) (ux 6) (ux 7) (ux 8) (ux 9) (ux 10) (ux 11) (ux 15) (ux 16) (ux 17) (ux 19) (ux 20) (ux 21) torn now trial) [0, 1, 2, 3, 4, 5, 6, 7, 8, 9, 10] (by decide +kernel) rfl
  refine cl_i (fun (u : s_W) => lw_W cy qx ux qm um torn now u wg0 wg1 wg2 wg3 seen k0 k1 iw0 iw1 is0 is1 (sf 0) (sf 1) (sf 2) (sf 3) tp rd row best (nI pe) dp mb mr mh (nI tn) po be so va rd.2.2 wr he sp bc bm l1 l2 l3 torn (nf_a S) (nf_a N) kp (nf_a Dr) tape row2 best2 heavy byk lan siz cel bef) (va_runV (As := [.int z1, .int z2, .int z3]) (rest := []) (C := RX6) ⟨hx, hb, hml, hown, hts⟩ (c_X6_kind l D cy H.size qx (ux 0) (ux 1) (ux 2) (ux 3) (ux 4) (ux 5) (ux 6) (ux 7) (ux 8) (ux 9) (ux 10) (ux 11) (ux 15) (ux 16) (ux 17) (ux 19) (ux 20) (ux 21) torn now trial z1 z2 z3 (f := 5000) e1) ⟨callB_of 3 hts (wg_law k_553) rfl rfl rfl (htw _ k_1) (htw _ k_550) (by decide +kernel) ⟨by decide, by decide⟩, (htw _ k_551), (htw _ k_552)⟩ ⟨st_blind, va_recv hK.1 hPc (ci := 6) (q0 := 0) rfl rfl, fun U hU hW => st_pre hK hPc hDc hU hW⟩ rfl rfl hl.1 rfl (lv_room (Nat.le_of_ble_eq_true rfl)) dL_law_819 ⟨by decide, by decide⟩) hP hD hS hA [0, 1, 2, 3, 4, 5, 6, 7, 8, 9, 10] [11, 12, 13, 14, 15, 16, 17, 18, 19, 20, 21, 22, 23, 24, 25, 26, 27, 28, 29, 30, 31, 32, 33, 34, 35, 36, 37, 38, 39, 40, 41, 42, 43, 44, 45, 46, 47, 48, 49, 50, 51, 52, 53, 54, 55, 56, 57, 58, 59, 60, 61, 62, 63, 64, 65, 66, 67, 68, 69, 70, 71, 72, 73, 74, 75, 76, 77, 78, 79, 80, 81, 82, 83, 84] [74, 75, 76, 77, 78, 79, 80, 81, 82, 83, 84, 0, 1, 2, 3, 4, 5, 6, 7, 8, 9, 10, 11, 12, 13, 14, 15, 16, 17, 18, 19, 20, 21, 22, 23, 24, 25, 26, 27, 28, 29, 30, 31, 32, 33, 34, 35, 36, 37, 38, 39, 40, 41, 42, 43, 44, 45, 46, 47, 48, 49, 50, 51, 52, 53, 54, 55, 56, 57, 58, 59, 60, 61, 62, 63, 64, 65, 66, 67, 68, 69, 70, 71, 72, 73] rfl rfl (by decide +kernel) (by decide +kernel) (by decide +kernel) (fun _ => rfl) (fun r0 u H locs hw hP hD hS => ?_)
  obtain ⟨rfl, rfl⟩ := hw
  have hP : va_P D vwCl (lw_W cy qx ux qm um torn now t2 wg0 wg1 wg2 wg3 seen k0 k1 iw0 iw1 is0 is1 (sf 0) (sf 1) (sf 2) (sf 3) tp rd row best (nI pe) dp mb mr mh (nI tn) po be so va rd.2.2 wr he sp bc bm l1 l2 l3 torn (nf_a S) (nf_a N) kp (nf_a Dr) tape row2 best2 heavy byk lan siz cel bef) H := hP
  have hD : va_D (fun q : Nat => s.heap.size ≤ q) (lw_W cy qx ux qm um torn now t2 wg0 wg1 wg2 wg3 seen k0 k1 iw0 iw1 is0 is1 (sf 0) (sf 1) (sf 2) (sf 3) tp rd row best (nI pe) dp mb mr mh (nI tn) po be so va rd.2.2 wr he sp bc bm l1 l2 l3 torn (nf_a S) (nf_a N) kp (nf_a Dr) tape row2 best2 heavy byk lan siz cel bef) := hD
  refine W.eq (g2 := F0 m 822 ls [.int r]) rfl ?_
  refine lv_aload_n hx hb dL_law_822 rfl (lv_at hl 3 rfl) ?_
  refine lv_aload_n hx hb dL_law_823 rfl (lv_at hl 1 rfl) ?_
  refine lv_iload_n hx hb dL_law_824 rfl (lv_at hl 0 rfl) ?_
  refine lv_iconst (v := nI 1) hx hb dL_law_825 (by decide) ?_
  refine lv_iadd hx hb dL_law_826 ?_
  refine va_sld hx hb hX hbl hbA hS (lx_v (k := 1) hi5 (by omega) hL) dL_law_827 ?_
  rw [← ez1]
  refine lv_aload_n hx hb dL_law_828 rfl (lv_at hl 1 rfl) ?_
  refine lv_iload_n hx hb dL_law_829 rfl (lv_at hl 0 rfl) ?_
  refine lv_iconst (v := nI 2) hx hb dL_law_830 (by decide) ?_
  refine lv_iadd hx hb dL_law_831 ?_
  refine va_sld hx hb hX hbl hbA hS (lx_v (k := 2) hi5 (by omega) hL) dL_law_832 ?_
  rw [← ez2]
  refine lv_aload_n hx hb dL_law_833 rfl (lv_at hl 1 rfl) ?_
  refine lv_iload_n hx hb dL_law_834 rfl (lv_at hl 0 rfl) ?_
  refine lv_iconst (v := nI 3) hx hb dL_law_835 (by decide) ?_
  refine lv_iadd hx hb dL_law_836 ?_
  refine va_sld hx hb hX hbl hbA hS (lx_v (k := 3) hi5 (by omega) hL) dL_law_837 ?_
  rw [← ez3]
  have hPc := hP.sub (ws' := wc_X7_kind cy qm (um 0) (um 1) (um 2) (um 3) (um 4) (um 5) (um 6) (um 7) (um 8) (um 9) (um 10) (um 11) (um 12) (nI pe) dp mb mr mh (nI tn) po be so va rd.2.2 wr he sp bc bm l1 l2 l3 torn (nf_a S) (nf_a N)) [71, 72, 73] rfl
  have hDc := hD.sub (ws' := wc_X7_kind cy qm (um 0) (um 1) (um 2) (um 3) (um 4) (um 5) (um 6) (um 7) (um 8) (um 9) (um 10) (um 11) (um 12) (nI pe) dp mb mr mh (nI tn) po be so va rd.2.2 wr he sp bc bm l1 l2 l3 torn (nf_a S) (nf_a N)) [71, 72, 73] (by decide +kernel) rfl
  refine cl_i (fun (u : Int32 × Int32 × Int32 × Int32 × (Nat → Int32)) => lw_W cy qx ux qm um torn now t2 wg0 wg1 wg2 wg3 seen k0 k1 iw0 iw1 is0 is1 (sf 0) (sf 1) (sf 2) (sf 3) tp rd row best (nI pe) dp mb mr mh (nI tn) po be so va rd.2.2 wr u.1 u.2.1 u.2.2.1 u.2.2.2.1 l1 l2 l3 torn (nf_a S) u.2.2.2.2 kp (nf_a Dr) tape row2 best2 heavy byk lan siz cel bef) (va_runV (As := [.int z1, .int z2, .int z3]) (rest := [.int r]) (C := RX7) ⟨hx, hb, hml, hown, hts⟩ (c_X7_kind l D cy H.size qm (um 0) (um 1) (um 2) (um 3) (um 4) (um 5) (um 6) (um 7) (um 8) (um 9) (um 10) (um 11) (um 12) (nI pe) dp mb mr mh (nI tn) po be so va rd.2.2 wr he sp bc bm l1 l2 l3 torn (nf_a S) (nf_a N) z1 z2 z3 (f := 5000) e2) ⟨callB_of 3 hts (wg_law k_1055) rfl rfl rfl (htw _ k_8) (htw _ k_1052) (by decide +kernel) ⟨by decide, by decide⟩, (htw _ k_1053), (htw _ k_1054)⟩ ⟨st_blind, va_recv hK.1 hPc (ci := 7) (q0 := 0) rfl rfl, fun U hU hW => st_pre hK hPc hDc hU hW⟩ rfl rfl hl.1 rfl (lv_room (Nat.le_of_ble_eq_true rfl)) dL_law_838 ⟨by decide, by decide⟩) hP hD hS hA [71, 72, 73] [0, 1, 2, 3, 4, 5, 6, 7, 8, 9, 10, 11, 12, 13, 14, 15, 16, 17, 18, 19, 20, 21, 22, 23, 24, 25, 26, 27, 28, 29, 30, 31, 32, 33, 34, 35, 36, 37, 38, 39, 40, 41, 42, 43, 44, 45, 46, 47, 48, 49, 50, 51, 52, 53, 54, 55, 56, 57, 58, 59, 60, 61, 62, 63, 64, 65, 66, 67, 68, 69, 70, 74, 75, 76, 77, 78, 79, 80, 81, 82, 83, 84] [0, 1, 2, 3, 4, 5, 6, 7, 8, 9, 10, 11, 12, 13, 14, 15, 16, 17, 18, 19, 20, 21, 22, 23, 24, 25, 26, 27, 28, 29, 30, 31, 32, 33, 34, 35, 36, 37, 38, 39, 40, 41, 42, 43, 44, 45, 46, 47, 48, 49, 50, 51, 52, 53, 54, 55, 56, 57, 58, 59, 60, 61, 62, 63, 64, 65, 66, 67, 68, 69, 70, 82, 83, 84, 71, 72, 73, 74, 75, 76, 77, 78, 79, 80, 81] rfl rfl (by decide +kernel) (by decide +kernel) (by decide +kernel) (fun _ => rfl) (fun r0 u H locs hw hP hD hS => ?_)
  obtain ⟨rfl, rfl⟩ := hw
  have hP : va_P D vwCl (lw_W cy qx ux qm um torn now t2 wg0 wg1 wg2 wg3 seen k0 k1 iw0 iw1 is0 is1 (sf 0) (sf 1) (sf 2) (sf 3) tp rd row best (nI pe) dp mb mr mh (nI tn) po be so va rd.2.2 wr q.1 q.2.1 q.2.2.1 q.2.2.2.1 l1 l2 l3 torn (nf_a S) q.2.2.2.2 kp (nf_a Dr) tape row2 best2 heavy byk lan siz cel bef) H := hP
  have hD : va_D (fun q : Nat => s.heap.size ≤ q) (lw_W cy qx ux qm um torn now t2 wg0 wg1 wg2 wg3 seen k0 k1 iw0 iw1 is0 is1 (sf 0) (sf 1) (sf 2) (sf 3) tp rd row best (nI pe) dp mb mr mh (nI tn) po be so va rd.2.2 wr q.1 q.2.1 q.2.2.1 q.2.2.2.1 l1 l2 l3 torn (nf_a S) q.2.2.2.2 kp (nf_a Dr) tape row2 best2 heavy byk lan siz cel bef) := hD
  refine W.eq (g2 := F0 m 841 ls [.int r, .int r]) rfl ?_
  refine lv_icmp_eq (tgt := 1353) hx hb dL_law_841 (by decide) (fun _ => ?_) (fun cc => absurd rfl cc)
  have hR2 : lw_R cy qx ux qm um (lw_W cy qx ux qm um torn now t2 wg0 wg1 wg2 wg3 seen k0 k1 iw0 iw1 is0 is1 (sf 0) (sf 1) (sf 2) (sf 3) tp rd row best (nI pe) dp mb mr mh (nI tn) po be so va rd.2.2 wr q.1 q.2.1 q.2.2.1 q.2.2.2.1 l1 l2 l3 torn (nf_a S) q.2.2.2.2 kp (nf_a Dr) tape row2 best2 heavy byk lan siz cel bef) := lw_mk (sf := sf) rfl rfl h1 hi0 hi1 hs4 htp
  exact lx_T C0 kk _ _ _ _ hR2 hP hD hS (lv_sub hl [0, 1, 2, 3] rfl)
set_option maxHeartbeats 8000000 in
set_option maxRecDepth 100000 in
theorem lp_24 {p : Program} {l : Launch} {e : Env} {s : State} {m : MethodId} {below : List Frame} {meth : Method} {c : Code} {b L : Nat} {xs : Nat → Int32} {D : va_G} {cy : Nat → ClassId} {X : (Nat → Nat) × (Nat → Nat)} {qx qm : Nat} {ux um : Nat → Nat} {i : Nat} (C0 : lx_C p s m meth c b L xs D cy X) (hi5 : i + 5 ≤ L) (kk : lx_G p l e s m below meth c b D cy qx ux qm um (nI i + 5) 18) : lx_G p l e s m below meth c b D cy qx ux qm um (nI i) 846 := by
  intro ws H locs ls hR hP hD hS hl
  obtain ⟨⟨hx, hb, hr0, hml, hown, hts, hX, hbl, hlocks, hgv⟩, hL, hK, hE⟩ := id C0
  have htw := lx_h hts
  have hA : ∀ q : Nat, s.heap.size ≤ q → (fun q : Nat => s.heap.size ≤ q) q := fun _ h => h
  have hbA : ¬ (fun q : Nat => s.heap.size ≤ q) b := Nat.not_le.mpr hbl
  obtain ⟨pe, tn, S, N, Dr, torn, now, trial, wg0, wg1, wg2, wg3, seen, k0, k1, iw0, iw1, is0, is1, sf, tp, rd, row, best, dp, mb, mr, mh, po, be, so, va, wr, he, sp, bc, bm, l1, l2, l3, kp, tape, row2, best2, heavy, byk, lan, siz, cel, bef, rfl, h1, hi0, hi1, hs4, htp⟩ := hR
  obtain ⟨z1, ez1⟩ : ∃ z, z = xs (nI i + nI 1).toNatClampNeg := ⟨_, rfl⟩
  obtain ⟨z2, ez2⟩ : ∃ z, z = xs (nI i + nI 2).toNatClampNeg := ⟨_, rfl⟩
  obtain ⟨z3, ez3⟩ : ∃ z, z = xs (nI i + nI 3).toNatClampNeg := ⟨_, rfl⟩
  obtain ⟨z4, ez4⟩ : ∃ z, z = xs (nI i + nI 4).toNatClampNeg := ⟨_, rfl⟩
  obtain ⟨r, t2, q, e1, e2⟩ := op_luck (f := 5000) (N := N) (x := he) (y := sp) (t := trial) (l1 := l1) (l2 := l2) (l3 := l3) h1 (by decide) z1 z2 z3 z4
  refine lv_aload_n hx hb dL_law_846 rfl (lv_at hl 2 rfl) ?_
  refine lv_aload_n hx hb dL_law_847 rfl (lv_at hl 1 rfl) ?_
  refine lv_iload_n hx hb dL_law_848 rfl (lv_at hl 0 rfl) ?_
  refine lv_iconst (v := nI 1) hx hb dL_law_849 (by decide) ?_
  refine lv_iadd hx hb dL_law_850 ?_
  refine va_sld hx hb hX hbl hbA hS (lx_v (k := 1) hi5 (by omega) hL) dL_law_851 ?_
  rw [← ez1]
  refine lv_aload_n hx hb dL_law_852 rfl (lv_at hl 1 rfl) ?_
  refine lv_iload_n hx hb dL_law_853 rfl (lv_at hl 0 rfl) ?_
  refine lv_iconst (v := nI 2) hx hb dL_law_854 (by decide) ?_
  refine lv_iadd hx hb dL_law_855 ?_
  refine va_sld hx hb hX hbl hbA hS (lx_v (k := 2) hi5 (by omega) hL) dL_law_856 ?_
  rw [← ez2]
  refine lv_aload_n hx hb dL_law_857 rfl (lv_at hl 1 rfl) ?_
  refine lv_iload_n hx hb dL_law_858 rfl (lv_at hl 0 rfl) ?_
  refine lv_iconst (v := nI 3) hx hb dL_law_859 (by decide) ?_
  refine lv_iadd hx hb dL_law_860 ?_
  refine va_sld hx hb hX hbl hbA hS (lx_v (k := 3) hi5 (by omega) hL) dL_law_861 ?_
  rw [← ez3]
  refine lv_aload_n hx hb dL_law_862 rfl (lv_at hl 1 rfl) ?_
  refine lv_iload_n hx hb dL_law_863 rfl (lv_at hl 0 rfl) ?_
  refine lv_iconst (v := nI 4) hx hb dL_law_864 (by decide) ?_
  refine lv_iadd hx hb dL_law_865 ?_
  refine va_sld hx hb hX hbl hbA hS (lx_v (k := 4) hi5 (by omega) hL) dL_law_866 ?_
  rw [← ez4]
  have hPc := hP.sub (ws' := wc_X6_luck cy qx (ux 5) (ux 6) (ux 7) (ux 8) (ux 9) (ux 0) (ux 1) (ux 2) (ux 3) (ux 4) (ux 10) (ux 11) (ux 15) (ux 16) (ux 17) (ux 19) (ux 20) (ux 21) torn trial now) [0, 6, 7, 8, 9, 10, 1, 2, 3, 4, 5] rfl
  have hDc := hD.sub (ws' := wc_X6_luck cy qx (ux 5) (ux 6) (ux 7) (ux 8) (ux 9) (ux 0) (ux 1) (ux 2) (ux 3) (ux 4) (ux 10) (ux 11) (ux 15) (ux 16) (ux 17) (ux 19) (ux 20) (ux 21) torn trial now) [0, 6, 7, 8, 9, 10, 1, 2, 3, 4, 5] (by decide +kernel) rfl
  refine cl_l (fun (u : s_W) => lw_W cy qx ux qm um torn now u wg0 wg1 wg2 wg3 seen k0 k1 iw0 iw1 is0 is1 (sf 0) (sf 1) (sf 2) (sf 3) tp rd row best (nI pe) dp mb mr mh (nI tn) po be so va rd.2.2 wr he sp bc bm l1 l2 l3 torn (nf_a S) (nf_a N) kp (nf_a Dr) tape row2 best2 heavy byk lan siz cel bef) (va_runV (As := [.int z1, .int z2, .int z3, .int z4]) (rest := []) (C := RX6) ⟨hx, hb, hml, hown, hts⟩ (c_X6_luck l D cy H.size qx (ux 5) (ux 6) (ux 7) (ux 8) (ux 9) (ux 0) (ux 1) (ux 2) (ux 3) (ux 4) (ux 10) (ux 11) (ux 15) (ux 16) (ux 17) (ux 19) (ux 20) (ux 21) torn trial now z1 z2 z3 z4 (f := 5000) e1) ⟨callB_of 4 hts (wg_law k_557) rfl rfl rfl (htw _ k_1) (htw _ k_554) (by decide +kernel) ⟨by decide, by decide⟩, (htw _ k_555), (htw _ k_556)⟩ ⟨st_blind, va_recv hK.1 hPc (ci := 6) (q0 := 0) rfl rfl, fun U hU hW => st_pre hK hPc hDc hU hW⟩ rfl rfl hl.1 rfl (lv_room (Nat.le_of_ble_eq_true rfl)) dL_law_867 ⟨by decide, by decide⟩) hP hD hS hA [0, 6, 7, 8, 9, 10, 1, 2, 3, 4, 5] [11, 12, 13, 14, 15, 16, 17, 18, 19, 20, 21, 22, 23, 24, 25, 26, 27, 28, 29, 30, 31, 32, 33, 34, 35, 36, 37, 38, 39, 40, 41, 42, 43, 44, 45, 46, 47, 48, 49, 50, 51, 52, 53, 54, 55, 56, 57, 58, 59, 60, 61, 62, 63, 64, 65, 66, 67, 68, 69, 70, 71, 72, 73, 74, 75, 76, 77, 78, 79, 80, 81, 82, 83, 84] [74, 80, 81, 82, 83, 84, 75, 76, 77, 78, 79, 0, 1, 2, 3, 4, 5, 6, 7, 8, 9, 10, 11, 12, 13, 14, 15, 16, 17, 18, 19, 20, 21, 22, 23, 24, 25, 26, 27, 28, 29, 30, 31, 32, 33, 34, 35, 36, 37, 38, 39, 40, 41, 42, 43, 44, 45, 46, 47, 48, 49, 50, 51, 52, 53, 54, 55, 56, 57, 58, 59, 60, 61, 62, 63, 64, 65, 66, 67, 68, 69, 70, 71, 72, 73] rfl rfl (by decide +kernel) (by decide +kernel) (by decide +kernel) (fun _ => rfl) (fun r0 u H locs hw hP hD hS => ?_)
  obtain ⟨rfl, rfl⟩ := hw
  have hP : va_P D vwCl (lw_W cy qx ux qm um torn now t2 wg0 wg1 wg2 wg3 seen k0 k1 iw0 iw1 is0 is1 (sf 0) (sf 1) (sf 2) (sf 3) tp rd row best (nI pe) dp mb mr mh (nI tn) po be so va rd.2.2 wr he sp bc bm l1 l2 l3 torn (nf_a S) (nf_a N) kp (nf_a Dr) tape row2 best2 heavy byk lan siz cel bef) H := hP
  have hD : va_D (fun q : Nat => s.heap.size ≤ q) (lw_W cy qx ux qm um torn now t2 wg0 wg1 wg2 wg3 seen k0 k1 iw0 iw1 is0 is1 (sf 0) (sf 1) (sf 2) (sf 3) tp rd row best (nI pe) dp mb mr mh (nI tn) po be so va rd.2.2 wr he sp bc bm l1 l2 l3 torn (nf_a S) (nf_a N) kp (nf_a Dr) tape row2 best2 heavy byk lan siz cel bef) := hD
  refine W.eq (g2 := F0 m 870 ls [.long r]) rfl ?_
  refine lv_aload_n hx hb dL_law_870 rfl (lv_at hl 3 rfl) ?_
  refine lv_aload_n hx hb dL_law_871 rfl (lv_at hl 1 rfl) ?_
  refine lv_iload_n hx hb dL_law_872 rfl (lv_at hl 0 rfl) ?_
  refine lv_iconst (v := nI 1) hx hb dL_law_873 (by decide) ?_
  refine lv_iadd hx hb dL_law_874 ?_
  refine va_sld hx hb hX hbl hbA hS (lx_v (k := 1) hi5 (by omega) hL) dL_law_875 ?_
  rw [← ez1]
  refine lv_aload_n hx hb dL_law_876 rfl (lv_at hl 1 rfl) ?_
  refine lv_iload_n hx hb dL_law_877 rfl (lv_at hl 0 rfl) ?_
  refine lv_iconst (v := nI 2) hx hb dL_law_878 (by decide) ?_
  refine lv_iadd hx hb dL_law_879 ?_
  refine va_sld hx hb hX hbl hbA hS (lx_v (k := 2) hi5 (by omega) hL) dL_law_880 ?_
  rw [← ez2]
  refine lv_aload_n hx hb dL_law_881 rfl (lv_at hl 1 rfl) ?_
  refine lv_iload_n hx hb dL_law_882 rfl (lv_at hl 0 rfl) ?_
  refine lv_iconst (v := nI 3) hx hb dL_law_883 (by decide) ?_
  refine lv_iadd hx hb dL_law_884 ?_
  refine va_sld hx hb hX hbl hbA hS (lx_v (k := 3) hi5 (by omega) hL) dL_law_885 ?_
  rw [← ez3]
  refine lv_aload_n hx hb dL_law_886 rfl (lv_at hl 1 rfl) ?_
  refine lv_iload_n hx hb dL_law_887 rfl (lv_at hl 0 rfl) ?_
  refine lv_iconst (v := nI 4) hx hb dL_law_888 (by decide) ?_
  refine lv_iadd hx hb dL_law_889 ?_
  refine va_sld hx hb hX hbl hbA hS (lx_v (k := 4) hi5 (by omega) hL) dL_law_890 ?_
  rw [← ez4]
  have hPc := hP.sub (ws' := wc_X7_luck cy qm (um 0) (um 1) (um 2) (um 3) (um 4) (um 5) (um 6) (um 7) (um 8) (um 9) (um 10) (um 11) (um 12) (nI pe) dp mb mr mh (nI tn) po be so va rd.2.2 wr he sp bc bm l1 l2 l3 torn (nf_a S) (nf_a N)) [71, 72, 73] rfl
  have hDc := hD.sub (ws' := wc_X7_luck cy qm (um 0) (um 1) (um 2) (um 3) (um 4) (um 5) (um 6) (um 7) (um 8) (um 9) (um 10) (um 11) (um 12) (nI pe) dp mb mr mh (nI tn) po be so va rd.2.2 wr he sp bc bm l1 l2 l3 torn (nf_a S) (nf_a N)) [71, 72, 73] (by decide +kernel) rfl
  refine cl_l (fun (u : Int32 × Int32 × Int64 × Int64 × Int64 × (Nat → Int32)) => lw_W cy qx ux qm um torn now t2 wg0 wg1 wg2 wg3 seen k0 k1 iw0 iw1 is0 is1 (sf 0) (sf 1) (sf 2) (sf 3) tp rd row best (nI pe) dp mb mr mh (nI tn) po be so va rd.2.2 wr u.1 u.2.1 bc bm u.2.2.1 u.2.2.2.1 u.2.2.2.2.1 torn (nf_a S) u.2.2.2.2.2 kp (nf_a Dr) tape row2 best2 heavy byk lan siz cel bef) (va_runV (As := [.int z1, .int z2, .int z3, .int z4]) (rest := [.long r]) (C := RX7) ⟨hx, hb, hml, hown, hts⟩ (c_X7_luck l D cy H.size qm (um 0) (um 1) (um 2) (um 3) (um 4) (um 5) (um 6) (um 7) (um 8) (um 9) (um 10) (um 11) (um 12) (nI pe) dp mb mr mh (nI tn) po be so va rd.2.2 wr he sp bc bm l1 l2 l3 torn (nf_a S) (nf_a N) z1 z2 z3 z4 (f := 5000) e2) ⟨callB_of 4 hts (wg_law k_1059) rfl rfl rfl (htw _ k_8) (htw _ k_1056) (by decide +kernel) ⟨by decide, by decide⟩, (htw _ k_1057), (htw _ k_1058)⟩ ⟨st_blind, va_recv hK.1 hPc (ci := 7) (q0 := 0) rfl rfl, fun U hU hW => st_pre hK hPc hDc hU hW⟩ rfl rfl hl.1 rfl (lv_room (Nat.le_of_ble_eq_true rfl)) dL_law_891 ⟨by decide, by decide⟩) hP hD hS hA [71, 72, 73] [0, 1, 2, 3, 4, 5, 6, 7, 8, 9, 10, 11, 12, 13, 14, 15, 16, 17, 18, 19, 20, 21, 22, 23, 24, 25, 26, 27, 28, 29, 30, 31, 32, 33, 34, 35, 36, 37, 38, 39, 40, 41, 42, 43, 44, 45, 46, 47, 48, 49, 50, 51, 52, 53, 54, 55, 56, 57, 58, 59, 60, 61, 62, 63, 64, 65, 66, 67, 68, 69, 70, 74, 75, 76, 77, 78, 79, 80, 81, 82, 83, 84] [0, 1, 2, 3, 4, 5, 6, 7, 8, 9, 10, 11, 12, 13, 14, 15, 16, 17, 18, 19, 20, 21, 22, 23, 24, 25, 26, 27, 28, 29, 30, 31, 32, 33, 34, 35, 36, 37, 38, 39, 40, 41, 42, 43, 44, 45, 46, 47, 48, 49, 50, 51, 52, 53, 54, 55, 56, 57, 58, 59, 60, 61, 62, 63, 64, 65, 66, 67, 68, 69, 70, 82, 83, 84, 71, 72, 73, 74, 75, 76, 77, 78, 79, 80, 81] rfl rfl (by decide +kernel) (by decide +kernel) (by decide +kernel) (fun _ => rfl) (fun r0 u H locs hw hP hD hS => ?_)
  obtain ⟨rfl, rfl⟩ := hw
  have hP : va_P D vwCl (lw_W cy qx ux qm um torn now t2 wg0 wg1 wg2 wg3 seen k0 k1 iw0 iw1 is0 is1 (sf 0) (sf 1) (sf 2) (sf 3) tp rd row best (nI pe) dp mb mr mh (nI tn) po be so va rd.2.2 wr q.1 q.2.1 bc bm q.2.2.1 q.2.2.2.1 q.2.2.2.2.1 torn (nf_a S) q.2.2.2.2.2 kp (nf_a Dr) tape row2 best2 heavy byk lan siz cel bef) H := hP
  have hD : va_D (fun q : Nat => s.heap.size ≤ q) (lw_W cy qx ux qm um torn now t2 wg0 wg1 wg2 wg3 seen k0 k1 iw0 iw1 is0 is1 (sf 0) (sf 1) (sf 2) (sf 3) tp rd row best (nI pe) dp mb mr mh (nI tn) po be so va rd.2.2 wr q.1 q.2.1 bc bm q.2.2.1 q.2.2.2.1 q.2.2.2.2.1 torn (nf_a S) q.2.2.2.2.2 kp (nf_a Dr) tape row2 best2 heavy byk lan siz cel bef) := hD
  refine W.eq (g2 := F0 m 894 ls [.long r, .long r]) rfl ?_
  refine W.lcmp hx hb dL_law_894 ?_
  refine lv_if_eq (tgt := 1353) hx hb dL_law_895 (by decide) (fun _ => ?_) (fun cc => absurd ((lg_cmp_eq r r).mpr rfl) cc)
  have hR2 : lw_R cy qx ux qm um (lw_W cy qx ux qm um torn now t2 wg0 wg1 wg2 wg3 seen k0 k1 iw0 iw1 is0 is1 (sf 0) (sf 1) (sf 2) (sf 3) tp rd row best (nI pe) dp mb mr mh (nI tn) po be so va rd.2.2 wr q.1 q.2.1 bc bm q.2.2.1 q.2.2.2.1 q.2.2.2.2.1 torn (nf_a S) q.2.2.2.2.2 kp (nf_a Dr) tape row2 best2 heavy byk lan siz cel bef) := lw_mk (sf := sf) rfl rfl h1 hi0 hi1 hs4 htp
  exact lx_T C0 kk _ _ _ _ hR2 hP hD hS (lv_sub hl [0, 1, 2, 3] rfl)
set_option maxHeartbeats 8000000 in
set_option maxRecDepth 100000 in
theorem lp_25 {p : Program} {l : Launch} {e : Env} {s : State} {m : MethodId} {below : List Frame} {meth : Method} {c : Code} {b L : Nat} {xs : Nat → Int32} {D : va_G} {cy : Nat → ClassId} {X : (Nat → Nat) × (Nat → Nat)} {qx qm : Nat} {ux um : Nat → Nat} {i : Nat} (C0 : lx_C p s m meth c b L xs D cy X) (hi5 : i + 5 ≤ L) (kk : lx_G p l e s m below meth c b D cy qx ux qm um (nI i + 5) 18) : lx_G p l e s m below meth c b D cy qx ux qm um (nI i) 900 := by
  intro ws H locs ls hR hP hD hS hl
  obtain ⟨⟨hx, hb, hr0, hml, hown, hts, hX, hbl, hlocks, hgv⟩, hL, hK, hE⟩ := id C0
  have htw := lx_h hts
  have hA : ∀ q : Nat, s.heap.size ≤ q → (fun q : Nat => s.heap.size ≤ q) q := fun _ h => h
  have hbA : ¬ (fun q : Nat => s.heap.size ≤ q) b := Nat.not_le.mpr hbl
  obtain ⟨pe, tn, S, N, Dr, torn, now, trial, wg0, wg1, wg2, wg3, seen, k0, k1, iw0, iw1, is0, is1, sf, tp, rd, row, best, dp, mb, mr, mh, po, be, so, va, wr, he, sp, bc, bm, l1, l2, l3, kp, tape, row2, best2, heavy, byk, lan, siz, cel, bef, rfl, h1, hi0, hi1, hs4, htp⟩ := hR
  obtain ⟨z1, ez1⟩ : ∃ z, z = xs (nI i + nI 1).toNatClampNeg := ⟨_, rfl⟩
  obtain ⟨z2, ez2⟩ : ∃ z, z = xs (nI i + nI 2).toNatClampNeg := ⟨_, rfl⟩
  obtain ⟨z3, ez3⟩ : ∃ z, z = xs (nI i + nI 3).toNatClampNeg := ⟨_, rfl⟩
  obtain ⟨r, t2, q, e1, e2⟩ := op_mean (f := 5000) (N := N) (x := he) (y := sp) (t := trial) (l1 := l1) (l2 := l2) (l3 := l3) h1 (by decide) z1 z2 z3
  refine lv_aload_n hx hb dL_law_900 rfl (lv_at hl 2 rfl) ?_
  refine lv_aload_n hx hb dL_law_901 rfl (lv_at hl 1 rfl) ?_
  refine lv_iload_n hx hb dL_law_902 rfl (lv_at hl 0 rfl) ?_
  refine lv_iconst (v := nI 1) hx hb dL_law_903 (by decide) ?_
  refine lv_iadd hx hb dL_law_904 ?_
  refine va_sld hx hb hX hbl hbA hS (lx_v (k := 1) hi5 (by omega) hL) dL_law_905 ?_
  rw [← ez1]
  refine lv_aload_n hx hb dL_law_906 rfl (lv_at hl 1 rfl) ?_
  refine lv_iload_n hx hb dL_law_907 rfl (lv_at hl 0 rfl) ?_
  refine lv_iconst (v := nI 2) hx hb dL_law_908 (by decide) ?_
  refine lv_iadd hx hb dL_law_909 ?_
  refine va_sld hx hb hX hbl hbA hS (lx_v (k := 2) hi5 (by omega) hL) dL_law_910 ?_
  rw [← ez2]
  refine lv_aload_n hx hb dL_law_911 rfl (lv_at hl 1 rfl) ?_
  refine lv_iload_n hx hb dL_law_912 rfl (lv_at hl 0 rfl) ?_
  refine lv_iconst (v := nI 3) hx hb dL_law_913 (by decide) ?_
  refine lv_iadd hx hb dL_law_914 ?_
  refine va_sld hx hb hX hbl hbA hS (lx_v (k := 3) hi5 (by omega) hL) dL_law_915 ?_
  rw [← ez3]
  have hPc := hP.sub (ws' := wc_X6_mean cy qx (ux 5) (ux 6) (ux 7) (ux 8) (ux 9) (ux 0) (ux 1) (ux 2) (ux 3) (ux 4) (ux 10) (ux 11) (ux 15) (ux 16) (ux 17) (ux 19) (ux 20) (ux 21) torn trial now) [0, 6, 7, 8, 9, 10, 1, 2, 3, 4, 5] rfl
  have hDc := hD.sub (ws' := wc_X6_mean cy qx (ux 5) (ux 6) (ux 7) (ux 8) (ux 9) (ux 0) (ux 1) (ux 2) (ux 3) (ux 4) (ux 10) (ux 11) (ux 15) (ux 16) (ux 17) (ux 19) (ux 20) (ux 21) torn trial now) [0, 6, 7, 8, 9, 10, 1, 2, 3, 4, 5] (by decide +kernel) rfl
  refine cl_l (fun (u : s_W) => lw_W cy qx ux qm um torn now u wg0 wg1 wg2 wg3 seen k0 k1 iw0 iw1 is0 is1 (sf 0) (sf 1) (sf 2) (sf 3) tp rd row best (nI pe) dp mb mr mh (nI tn) po be so va rd.2.2 wr he sp bc bm l1 l2 l3 torn (nf_a S) (nf_a N) kp (nf_a Dr) tape row2 best2 heavy byk lan siz cel bef) (va_runV (As := [.int z1, .int z2, .int z3]) (rest := []) (C := RX6) ⟨hx, hb, hml, hown, hts⟩ (c_X6_mean l D cy H.size qx (ux 5) (ux 6) (ux 7) (ux 8) (ux 9) (ux 0) (ux 1) (ux 2) (ux 3) (ux 4) (ux 10) (ux 11) (ux 15) (ux 16) (ux 17) (ux 19) (ux 20) (ux 21) torn trial now z1 z2 z3 (f := 5000) e1) ⟨callB_of 3 hts (wg_law k_579) rfl rfl rfl (htw _ k_1) (htw _ k_576) (by decide +kernel) ⟨by decide, by decide⟩, (htw _ k_577), (htw _ k_578)⟩ ⟨st_blind, va_recv hK.1 hPc (ci := 6) (q0 := 0) rfl rfl, fun U hU hW => st_pre hK hPc hDc hU hW⟩ rfl rfl hl.1 rfl (lv_room (Nat.le_of_ble_eq_true rfl)) dL_law_916 ⟨by decide, by decide⟩) hP hD hS hA [0, 6, 7, 8, 9, 10, 1, 2, 3, 4, 5] [11, 12, 13, 14, 15, 16, 17, 18, 19, 20, 21, 22, 23, 24, 25, 26, 27, 28, 29, 30, 31, 32, 33, 34, 35, 36, 37, 38, 39, 40, 41, 42, 43, 44, 45, 46, 47, 48, 49, 50, 51, 52, 53, 54, 55, 56, 57, 58, 59, 60, 61, 62, 63, 64, 65, 66, 67, 68, 69, 70, 71, 72, 73, 74, 75, 76, 77, 78, 79, 80, 81, 82, 83, 84] [74, 80, 81, 82, 83, 84, 75, 76, 77, 78, 79, 0, 1, 2, 3, 4, 5, 6, 7, 8, 9, 10, 11, 12, 13, 14, 15, 16, 17, 18, 19, 20, 21, 22, 23, 24, 25, 26, 27, 28, 29, 30, 31, 32, 33, 34, 35, 36, 37, 38, 39, 40, 41, 42, 43, 44, 45, 46, 47, 48, 49, 50, 51, 52, 53, 54, 55, 56, 57, 58, 59, 60, 61, 62, 63, 64, 65, 66, 67, 68, 69, 70, 71, 72, 73] rfl rfl (by decide +kernel) (by decide +kernel) (by decide +kernel) (fun _ => rfl) (fun r0 u H locs hw hP hD hS => ?_)
  obtain ⟨rfl, rfl⟩ := hw
  have hP : va_P D vwCl (lw_W cy qx ux qm um torn now t2 wg0 wg1 wg2 wg3 seen k0 k1 iw0 iw1 is0 is1 (sf 0) (sf 1) (sf 2) (sf 3) tp rd row best (nI pe) dp mb mr mh (nI tn) po be so va rd.2.2 wr he sp bc bm l1 l2 l3 torn (nf_a S) (nf_a N) kp (nf_a Dr) tape row2 best2 heavy byk lan siz cel bef) H := hP
  have hD : va_D (fun q : Nat => s.heap.size ≤ q) (lw_W cy qx ux qm um torn now t2 wg0 wg1 wg2 wg3 seen k0 k1 iw0 iw1 is0 is1 (sf 0) (sf 1) (sf 2) (sf 3) tp rd row best (nI pe) dp mb mr mh (nI tn) po be so va rd.2.2 wr he sp bc bm l1 l2 l3 torn (nf_a S) (nf_a N) kp (nf_a Dr) tape row2 best2 heavy byk lan siz cel bef) := hD
  refine W.eq (g2 := F0 m 919 ls [.long r]) rfl ?_
  refine lv_aload_n hx hb dL_law_919 rfl (lv_at hl 3 rfl) ?_
  refine lv_aload_n hx hb dL_law_920 rfl (lv_at hl 1 rfl) ?_
  refine lv_iload_n hx hb dL_law_921 rfl (lv_at hl 0 rfl) ?_
  refine lv_iconst (v := nI 1) hx hb dL_law_922 (by decide) ?_
  refine lv_iadd hx hb dL_law_923 ?_
  refine va_sld hx hb hX hbl hbA hS (lx_v (k := 1) hi5 (by omega) hL) dL_law_924 ?_
  rw [← ez1]
  refine lv_aload_n hx hb dL_law_925 rfl (lv_at hl 1 rfl) ?_
  refine lv_iload_n hx hb dL_law_926 rfl (lv_at hl 0 rfl) ?_
  refine lv_iconst (v := nI 2) hx hb dL_law_927 (by decide) ?_
  refine lv_iadd hx hb dL_law_928 ?_
  refine va_sld hx hb hX hbl hbA hS (lx_v (k := 2) hi5 (by omega) hL) dL_law_929 ?_
  rw [← ez2]
  refine lv_aload_n hx hb dL_law_930 rfl (lv_at hl 1 rfl) ?_
  refine lv_iload_n hx hb dL_law_931 rfl (lv_at hl 0 rfl) ?_
  refine lv_iconst (v := nI 3) hx hb dL_law_932 (by decide) ?_
  refine lv_iadd hx hb dL_law_933 ?_
  refine va_sld hx hb hX hbl hbA hS (lx_v (k := 3) hi5 (by omega) hL) dL_law_934 ?_
  rw [← ez3]
  have hPc := hP.sub (ws' := wc_X7_mean cy qm (um 0) (um 1) (um 2) (um 3) (um 4) (um 5) (um 6) (um 7) (um 8) (um 9) (um 10) (um 11) (um 12) (nI pe) dp mb mr mh (nI tn) po be so va rd.2.2 wr he sp bc bm l1 l2 l3 torn (nf_a S) (nf_a N)) [71, 72, 73] rfl
  have hDc := hD.sub (ws' := wc_X7_mean cy qm (um 0) (um 1) (um 2) (um 3) (um 4) (um 5) (um 6) (um 7) (um 8) (um 9) (um 10) (um 11) (um 12) (nI pe) dp mb mr mh (nI tn) po be so va rd.2.2 wr he sp bc bm l1 l2 l3 torn (nf_a S) (nf_a N)) [71, 72, 73] (by decide +kernel) rfl
  refine cl_l (fun (u : Int32 × Int32 × Int64 × Int64 × Int64 × (Nat → Int32)) => lw_W cy qx ux qm um torn now t2 wg0 wg1 wg2 wg3 seen k0 k1 iw0 iw1 is0 is1 (sf 0) (sf 1) (sf 2) (sf 3) tp rd row best (nI pe) dp mb mr mh (nI tn) po be so va rd.2.2 wr u.1 u.2.1 bc bm u.2.2.1 u.2.2.2.1 u.2.2.2.2.1 torn (nf_a S) u.2.2.2.2.2 kp (nf_a Dr) tape row2 best2 heavy byk lan siz cel bef) (va_runV (As := [.int z1, .int z2, .int z3]) (rest := [.long r]) (C := RX7) ⟨hx, hb, hml, hown, hts⟩ (c_X7_mean l D cy H.size qm (um 0) (um 1) (um 2) (um 3) (um 4) (um 5) (um 6) (um 7) (um 8) (um 9) (um 10) (um 11) (um 12) (nI pe) dp mb mr mh (nI tn) po be so va rd.2.2 wr he sp bc bm l1 l2 l3 torn (nf_a S) (nf_a N) z1 z2 z3 (f := 5000) e2) ⟨callB_of 3 hts (wg_law k_1075) rfl rfl rfl (htw _ k_8) (htw _ k_1072) (by decide +kernel) ⟨by decide, by decide⟩, (htw _ k_1073), (htw _ k_1074)⟩ ⟨st_blind, va_recv hK.1 hPc (ci := 7) (q0 := 0) rfl rfl, fun U hU hW => st_pre hK hPc hDc hU hW⟩ rfl rfl hl.1 rfl (lv_room (Nat.le_of_ble_eq_true rfl)) dL_law_935 ⟨by decide, by decide⟩) hP hD hS hA [71, 72, 73] [0, 1, 2, 3, 4, 5, 6, 7, 8, 9, 10, 11, 12, 13, 14, 15, 16, 17, 18, 19, 20, 21, 22, 23, 24, 25, 26, 27, 28, 29, 30, 31, 32, 33, 34, 35, 36, 37, 38, 39, 40, 41, 42, 43, 44, 45, 46, 47, 48, 49, 50, 51, 52, 53, 54, 55, 56, 57, 58, 59, 60, 61, 62, 63, 64, 65, 66, 67, 68, 69, 70, 74, 75, 76, 77, 78, 79, 80, 81, 82, 83, 84] [0, 1, 2, 3, 4, 5, 6, 7, 8, 9, 10, 11, 12, 13, 14, 15, 16, 17, 18, 19, 20, 21, 22, 23, 24, 25, 26, 27, 28, 29, 30, 31, 32, 33, 34, 35, 36, 37, 38, 39, 40, 41, 42, 43, 44, 45, 46, 47, 48, 49, 50, 51, 52, 53, 54, 55, 56, 57, 58, 59, 60, 61, 62, 63, 64, 65, 66, 67, 68, 69, 70, 82, 83, 84, 71, 72, 73, 74, 75, 76, 77, 78, 79, 80, 81] rfl rfl (by decide +kernel) (by decide +kernel) (by decide +kernel) (fun _ => rfl) (fun r0 u H locs hw hP hD hS => ?_)
  obtain ⟨rfl, rfl⟩ := hw
  have hP : va_P D vwCl (lw_W cy qx ux qm um torn now t2 wg0 wg1 wg2 wg3 seen k0 k1 iw0 iw1 is0 is1 (sf 0) (sf 1) (sf 2) (sf 3) tp rd row best (nI pe) dp mb mr mh (nI tn) po be so va rd.2.2 wr q.1 q.2.1 bc bm q.2.2.1 q.2.2.2.1 q.2.2.2.2.1 torn (nf_a S) q.2.2.2.2.2 kp (nf_a Dr) tape row2 best2 heavy byk lan siz cel bef) H := hP
  have hD : va_D (fun q : Nat => s.heap.size ≤ q) (lw_W cy qx ux qm um torn now t2 wg0 wg1 wg2 wg3 seen k0 k1 iw0 iw1 is0 is1 (sf 0) (sf 1) (sf 2) (sf 3) tp rd row best (nI pe) dp mb mr mh (nI tn) po be so va rd.2.2 wr q.1 q.2.1 bc bm q.2.2.1 q.2.2.2.1 q.2.2.2.2.1 torn (nf_a S) q.2.2.2.2.2 kp (nf_a Dr) tape row2 best2 heavy byk lan siz cel bef) := hD
  refine W.eq (g2 := F0 m 938 ls [.long r, .long r]) rfl ?_
  refine W.lcmp hx hb dL_law_938 ?_
  refine lv_if_eq (tgt := 1353) hx hb dL_law_939 (by decide) (fun _ => ?_) (fun cc => absurd ((lg_cmp_eq r r).mpr rfl) cc)
  have hR2 : lw_R cy qx ux qm um (lw_W cy qx ux qm um torn now t2 wg0 wg1 wg2 wg3 seen k0 k1 iw0 iw1 is0 is1 (sf 0) (sf 1) (sf 2) (sf 3) tp rd row best (nI pe) dp mb mr mh (nI tn) po be so va rd.2.2 wr q.1 q.2.1 bc bm q.2.2.1 q.2.2.2.1 q.2.2.2.2.1 torn (nf_a S) q.2.2.2.2.2 kp (nf_a Dr) tape row2 best2 heavy byk lan siz cel bef) := lw_mk (sf := sf) rfl rfl h1 hi0 hi1 hs4 htp
  exact lx_T C0 kk _ _ _ _ hR2 hP hD hS (lv_sub hl [0, 1, 2, 3] rfl)
set_option maxHeartbeats 8000000 in
set_option maxRecDepth 100000 in
theorem lp_26 {p : Program} {l : Launch} {e : Env} {s : State} {m : MethodId} {below : List Frame} {meth : Method} {c : Code} {b L : Nat} {xs : Nat → Int32} {D : va_G} {cy : Nat → ClassId} {X : (Nat → Nat) × (Nat → Nat)} {qx qm : Nat} {ux um : Nat → Nat} {i : Nat} (C0 : lx_C p s m meth c b L xs D cy X) (hi5 : i + 5 ≤ L) (kk : lx_G p l e s m below meth c b D cy qx ux qm um (nI i + 5) 18) : lx_G p l e s m below meth c b D cy qx ux qm um (nI i) 944 := by
  intro ws H locs ls hR hP hD hS hl
  obtain ⟨⟨hx, hb, hr0, hml, hown, hts, hX, hbl, hlocks, hgv⟩, hL, hK, hE⟩ := id C0
  have htw := lx_h hts
  have hA : ∀ q : Nat, s.heap.size ≤ q → (fun q : Nat => s.heap.size ≤ q) q := fun _ h => h
  have hbA : ¬ (fun q : Nat => s.heap.size ≤ q) b := Nat.not_le.mpr hbl
  obtain ⟨pe, tn, S, N, Dr, torn, now, trial, wg0, wg1, wg2, wg3, seen, k0, k1, iw0, iw1, is0, is1, sf, tp, rd, row, best, dp, mb, mr, mh, po, be, so, va, wr, he, sp, bc, bm, l1, l2, l3, kp, tape, row2, best2, heavy, byk, lan, siz, cel, bef, rfl, h1, hi0, hi1, hs4, htp⟩ := hR
  obtain ⟨z1, ez1⟩ : ∃ z, z = xs (nI i + nI 1).toNatClampNeg := ⟨_, rfl⟩
  obtain ⟨z2, ez2⟩ : ∃ z, z = xs (nI i + nI 2).toNatClampNeg := ⟨_, rfl⟩
  obtain ⟨z3, ez3⟩ : ∃ z, z = xs (nI i + nI 3).toNatClampNeg := ⟨_, rfl⟩
  obtain ⟨r, v2, S2, e1, e2, g1, o46⟩ := op_see h1 z1 z2 z3
  refine lv_aload_n hx hb dL_law_944 rfl (lv_at hl 2 rfl) ?_
  refine lv_aload_n hx hb dL_law_945 rfl (lv_at hl 1 rfl) ?_
  refine lv_iload_n hx hb dL_law_946 rfl (lv_at hl 0 rfl) ?_
  refine lv_iconst (v := nI 1) hx hb dL_law_947 (by decide) ?_
  refine lv_iadd hx hb dL_law_948 ?_
  refine va_sld hx hb hX hbl hbA hS (lx_v (k := 1) hi5 (by omega) hL) dL_law_949 ?_
  rw [← ez1]
  refine lv_aload_n hx hb dL_law_950 rfl (lv_at hl 1 rfl) ?_
  refine lv_iload_n hx hb dL_law_951 rfl (lv_at hl 0 rfl) ?_
  refine lv_iconst (v := nI 2) hx hb dL_law_952 (by decide) ?_
  refine lv_iadd hx hb dL_law_953 ?_
  refine va_sld hx hb hX hbl hbA hS (lx_v (k := 2) hi5 (by omega) hL) dL_law_954 ?_
  rw [← ez2]
  refine lv_aload_n hx hb dL_law_955 rfl (lv_at hl 1 rfl) ?_
  refine lv_iload_n hx hb dL_law_956 rfl (lv_at hl 0 rfl) ?_
  refine lv_iconst (v := nI 3) hx hb dL_law_957 (by decide) ?_
  refine lv_iadd hx hb dL_law_958 ?_
  refine va_sld hx hb hX hbl hbA hS (lx_v (k := 3) hi5 (by omega) hL) dL_law_959 ?_
  rw [← ez3]
  have hPc := hP.sub (ws' := wc_X6_see cy qx (ux 0) (ux 1) (ux 2) (ux 3) (ux 4) (ux 11) (ux 12) (ux 13) (ux 14) (ux 5) (ux 10) (ux 15) (ux 16) (ux 17) (ux 19) (ux 20) (ux 21) torn now seen) [0, 1, 2, 3, 4, 5, 12, 13, 14, 15] rfl
  have hDc := hD.sub (ws' := wc_X6_see cy qx (ux 0) (ux 1) (ux 2) (ux 3) (ux 4) (ux 11) (ux 12) (ux 13) (ux 14) (ux 5) (ux 10) (ux 15) (ux 16) (ux 17) (ux 19) (ux 20) (ux 21) torn now seen) [0, 1, 2, 3, 4, 5, 12, 13, 14, 15] (by decide +kernel) rfl
  refine cl_i (fun (u : s_V) => lw_W cy qx ux qm um torn now trial wg0 wg1 wg2 wg3 u k0 k1 iw0 iw1 is0 is1 (sf 0) (sf 1) (sf 2) (sf 3) tp rd row best (nI pe) dp mb mr mh (nI tn) po be so va rd.2.2 wr he sp bc bm l1 l2 l3 torn (nf_a S) (nf_a N) kp (nf_a Dr) tape row2 best2 heavy byk lan siz cel bef) (va_runV (As := [.int z1, .int z2, .int z3]) (rest := []) (C := RX6) ⟨hx, hb, hml, hown, hts⟩ (c_X6_see l D cy H.size qx (ux 0) (ux 1) (ux 2) (ux 3) (ux 4) (ux 11) (ux 12) (ux 13) (ux 14) (ux 5) (ux 10) (ux 15) (ux 16) (ux 17) (ux 19) (ux 20) (ux 21) torn now seen z1 z2 z3 e1) ⟨callB_of 3 hts (wg_law k_583) rfl rfl rfl (htw _ k_1) (htw _ k_580) (by decide +kernel) ⟨by decide, by decide⟩, (htw _ k_581), (htw _ k_582)⟩ ⟨st_blind, va_recv hK.1 hPc (ci := 6) (q0 := 0) rfl rfl, fun U hU hW => st_pre hK hPc hDc hU hW⟩ rfl rfl hl.1 rfl (lv_room (Nat.le_of_ble_eq_true rfl)) dL_law_960 ⟨by decide, by decide⟩) hP hD hS hA [0, 1, 2, 3, 4, 5, 12, 13, 14, 15] [6, 7, 8, 9, 10, 11, 16, 17, 18, 19, 20, 21, 22, 23, 24, 25, 26, 27, 28, 29, 30, 31, 32, 33, 34, 35, 36, 37, 38, 39, 40, 41, 42, 43, 44, 45, 46, 47, 48, 49, 50, 51, 52, 53, 54, 55, 56, 57, 58, 59, 60, 61, 62, 63, 64, 65, 66, 67, 68, 69, 70, 71, 72, 73, 74, 75, 76, 77, 78, 79, 80, 81, 82, 83, 84] [75, 76, 77, 78, 79, 80, 0, 1, 2, 3, 4, 5, 81, 82, 83, 84, 6, 7, 8, 9, 10, 11, 12, 13, 14, 15, 16, 17, 18, 19, 20, 21, 22, 23, 24, 25, 26, 27, 28, 29, 30, 31, 32, 33, 34, 35, 36, 37, 38, 39, 40, 41, 42, 43, 44, 45, 46, 47, 48, 49, 50, 51, 52, 53, 54, 55, 56, 57, 58, 59, 60, 61, 62, 63, 64, 65, 66, 67, 68, 69, 70, 71, 72, 73, 74] rfl rfl (by decide +kernel) (by decide +kernel) (by decide +kernel) (fun _ => rfl) (fun r0 u H locs hw hP hD hS => ?_)
  obtain ⟨rfl, rfl⟩ := hw
  have hP : va_P D vwCl (lw_W cy qx ux qm um torn now trial wg0 wg1 wg2 wg3 v2 k0 k1 iw0 iw1 is0 is1 (sf 0) (sf 1) (sf 2) (sf 3) tp rd row best (nI pe) dp mb mr mh (nI tn) po be so va rd.2.2 wr he sp bc bm l1 l2 l3 torn (nf_a S) (nf_a N) kp (nf_a Dr) tape row2 best2 heavy byk lan siz cel bef) H := hP
  have hD : va_D (fun q : Nat => s.heap.size ≤ q) (lw_W cy qx ux qm um torn now trial wg0 wg1 wg2 wg3 v2 k0 k1 iw0 iw1 is0 is1 (sf 0) (sf 1) (sf 2) (sf 3) tp rd row best (nI pe) dp mb mr mh (nI tn) po be so va rd.2.2 wr he sp bc bm l1 l2 l3 torn (nf_a S) (nf_a N) kp (nf_a Dr) tape row2 best2 heavy byk lan siz cel bef) := hD
  refine W.eq (g2 := F0 m 963 ls [.int r]) rfl ?_
  refine lv_aload_n hx hb dL_law_963 rfl (lv_at hl 3 rfl) ?_
  refine lv_aload_n hx hb dL_law_964 rfl (lv_at hl 1 rfl) ?_
  refine lv_iload_n hx hb dL_law_965 rfl (lv_at hl 0 rfl) ?_
  refine lv_iconst (v := nI 1) hx hb dL_law_966 (by decide) ?_
  refine lv_iadd hx hb dL_law_967 ?_
  refine va_sld hx hb hX hbl hbA hS (lx_v (k := 1) hi5 (by omega) hL) dL_law_968 ?_
  rw [← ez1]
  refine lv_aload_n hx hb dL_law_969 rfl (lv_at hl 1 rfl) ?_
  refine lv_iload_n hx hb dL_law_970 rfl (lv_at hl 0 rfl) ?_
  refine lv_iconst (v := nI 2) hx hb dL_law_971 (by decide) ?_
  refine lv_iadd hx hb dL_law_972 ?_
  refine va_sld hx hb hX hbl hbA hS (lx_v (k := 2) hi5 (by omega) hL) dL_law_973 ?_
  rw [← ez2]
  refine lv_aload_n hx hb dL_law_974 rfl (lv_at hl 1 rfl) ?_
  refine lv_iload_n hx hb dL_law_975 rfl (lv_at hl 0 rfl) ?_
  refine lv_iconst (v := nI 3) hx hb dL_law_976 (by decide) ?_
  refine lv_iadd hx hb dL_law_977 ?_
  refine va_sld hx hb hX hbl hbA hS (lx_v (k := 3) hi5 (by omega) hL) dL_law_978 ?_
  rw [← ez3]
  have hPc := hP.sub (ws' := wc_X7_see cy qm (um 0) (um 1) (um 2) (um 3) (um 4) (um 5) (um 6) (um 7) (um 8) (um 9) (um 10) (um 11) (um 12) (nI pe) dp mb mr mh (nI tn) po be so va rd.2.2 wr he sp bc bm l1 l2 l3 torn (nf_a S)) [71, 72] rfl
  have hDc := hD.sub (ws' := wc_X7_see cy qm (um 0) (um 1) (um 2) (um 3) (um 4) (um 5) (um 6) (um 7) (um 8) (um 9) (um 10) (um 11) (um 12) (nI pe) dp mb mr mh (nI tn) po be so va rd.2.2 wr he sp bc bm l1 l2 l3 torn (nf_a S)) [71, 72] (by decide +kernel) rfl
  refine cl_i (fun (u : (Nat → Int32)) => lw_W cy qx ux qm um torn now trial wg0 wg1 wg2 wg3 v2 k0 k1 iw0 iw1 is0 is1 (sf 0) (sf 1) (sf 2) (sf 3) tp rd row best (nI pe) dp mb mr mh (nI tn) po be so va rd.2.2 wr he sp bc bm l1 l2 l3 torn u (nf_a N) kp (nf_a Dr) tape row2 best2 heavy byk lan siz cel bef) (va_runV (As := [.int z1, .int z2, .int z3]) (rest := [.int r]) (C := RX7) ⟨hx, hb, hml, hown, hts⟩ (c_X7_see l D cy H.size qm (um 0) (um 1) (um 2) (um 3) (um 4) (um 5) (um 6) (um 7) (um 8) (um 9) (um 10) (um 11) (um 12) (nI pe) dp mb mr mh (nI tn) po be so va rd.2.2 wr he sp bc bm l1 l2 l3 torn (nf_a S) z1 z2 z3 e2) ⟨callB_of 3 hts (wg_law k_1079) rfl rfl rfl (htw _ k_8) (htw _ k_1076) (by decide +kernel) ⟨by decide, by decide⟩, (htw _ k_1077), (htw _ k_1078)⟩ ⟨st_blind, va_recv hK.1 hPc (ci := 7) (q0 := 0) rfl rfl, fun U hU hW => st_pre hK hPc hDc hU hW⟩ rfl rfl hl.1 rfl (lv_room (Nat.le_of_ble_eq_true rfl)) dL_law_979 ⟨by decide, by decide⟩) hP hD hS hA [71, 72] [0, 1, 2, 3, 4, 5, 6, 7, 8, 9, 10, 11, 12, 13, 14, 15, 16, 17, 18, 19, 20, 21, 22, 23, 24, 25, 26, 27, 28, 29, 30, 31, 32, 33, 34, 35, 36, 37, 38, 39, 40, 41, 42, 43, 44, 45, 46, 47, 48, 49, 50, 51, 52, 53, 54, 55, 56, 57, 58, 59, 60, 61, 62, 63, 64, 65, 66, 67, 68, 69, 70, 73, 74, 75, 76, 77, 78, 79, 80, 81, 82, 83, 84] [0, 1, 2, 3, 4, 5, 6, 7, 8, 9, 10, 11, 12, 13, 14, 15, 16, 17, 18, 19, 20, 21, 22, 23, 24, 25, 26, 27, 28, 29, 30, 31, 32, 33, 34, 35, 36, 37, 38, 39, 40, 41, 42, 43, 44, 45, 46, 47, 48, 49, 50, 51, 52, 53, 54, 55, 56, 57, 58, 59, 60, 61, 62, 63, 64, 65, 66, 67, 68, 69, 70, 83, 84, 71, 72, 73, 74, 75, 76, 77, 78, 79, 80, 81, 82] rfl rfl (by decide +kernel) (by decide +kernel) (by decide +kernel) (fun _ => rfl) (fun r0 u H locs hw hP hD hS => ?_)
  obtain ⟨rfl, rfl⟩ := hw
  have hP : va_P D vwCl (lw_W cy qx ux qm um torn now trial wg0 wg1 wg2 wg3 v2 k0 k1 iw0 iw1 is0 is1 (sf 0) (sf 1) (sf 2) (sf 3) tp rd row best (nI pe) dp mb mr mh (nI tn) po be so va rd.2.2 wr he sp bc bm l1 l2 l3 torn (nf_a S2) (nf_a N) kp (nf_a Dr) tape row2 best2 heavy byk lan siz cel bef) H := hP
  have hD : va_D (fun q : Nat => s.heap.size ≤ q) (lw_W cy qx ux qm um torn now trial wg0 wg1 wg2 wg3 v2 k0 k1 iw0 iw1 is0 is1 (sf 0) (sf 1) (sf 2) (sf 3) tp rd row best (nI pe) dp mb mr mh (nI tn) po be so va rd.2.2 wr he sp bc bm l1 l2 l3 torn (nf_a S2) (nf_a N) kp (nf_a Dr) tape row2 best2 heavy byk lan siz cel bef) := hD
  refine W.eq (g2 := F0 m 982 ls [.int r, .int r]) rfl ?_
  refine lv_icmp_eq (tgt := 1353) hx hb dL_law_982 (by decide) (fun _ => ?_) (fun cc => absurd rfl cc)
  have hR2 : lw_R cy qx ux qm um (lw_W cy qx ux qm um torn now trial wg0 wg1 wg2 wg3 v2 k0 k1 iw0 iw1 is0 is1 (sf 0) (sf 1) (sf 2) (sf 3) tp rd row best (nI pe) dp mb mr mh (nI tn) po be so va rd.2.2 wr he sp bc bm l1 l2 l3 torn (nf_a S2) (nf_a N) kp (nf_a Dr) tape row2 best2 heavy byk lan siz cel bef) := lw_mk (sf := sf) rfl rfl g1 (im_cg (fun i _ _ => o46 i (by omega)) hi0) (im_cg (fun i _ _ => o46 i (by omega)) hi1) hs4 htp
  exact lx_T C0 kk _ _ _ _ hR2 hP hD hS (lv_sub hl [0, 1, 2, 3] rfl)
set_option maxHeartbeats 8000000 in
set_option maxRecDepth 100000 in
theorem lp_27 {p : Program} {l : Launch} {e : Env} {s : State} {m : MethodId} {below : List Frame} {meth : Method} {c : Code} {b L : Nat} {xs : Nat → Int32} {D : va_G} {cy : Nat → ClassId} {X : (Nat → Nat) × (Nat → Nat)} {qx qm : Nat} {ux um : Nat → Nat} {i : Nat} (C0 : lx_C p s m meth c b L xs D cy X) (hi5 : i + 5 ≤ L) (kk : lx_G p l e s m below meth c b D cy qx ux qm um (nI i + 5) 18) : lx_G p l e s m below meth c b D cy qx ux qm um (nI i) 987 := by
  intro ws H locs ls hR hP hD hS hl
  obtain ⟨⟨hx, hb, hr0, hml, hown, hts, hX, hbl, hlocks, hgv⟩, hL, hK, hE⟩ := id C0
  have htw := lx_h hts
  have hA : ∀ q : Nat, s.heap.size ≤ q → (fun q : Nat => s.heap.size ≤ q) q := fun _ h => h
  have hbA : ¬ (fun q : Nat => s.heap.size ≤ q) b := Nat.not_le.mpr hbl
  obtain ⟨pe, tn, S, N, Dr, torn, now, trial, wg0, wg1, wg2, wg3, seen, k0, k1, iw0, iw1, is0, is1, sf, tp, rd, row, best, dp, mb, mr, mh, po, be, so, va, wr, he, sp, bc, bm, l1, l2, l3, kp, tape, row2, best2, heavy, byk, lan, siz, cel, bef, rfl, h1, hi0, hi1, hs4, htp⟩ := hR
  obtain ⟨z1, ez1⟩ : ∃ z, z = xs (nI i + nI 1).toNatClampNeg := ⟨_, rfl⟩
  obtain ⟨r, v2, S2, e1, e2, g1, o46⟩ := op_forget h1 z1
  refine lv_aload_n hx hb dL_law_987 rfl (lv_at hl 2 rfl) ?_
  refine lv_aload_n hx hb dL_law_988 rfl (lv_at hl 1 rfl) ?_
  refine lv_iload_n hx hb dL_law_989 rfl (lv_at hl 0 rfl) ?_
  refine lv_iconst (v := nI 1) hx hb dL_law_990 (by decide) ?_
  refine lv_iadd hx hb dL_law_991 ?_
  refine va_sld hx hb hX hbl hbA hS (lx_v (k := 1) hi5 (by omega) hL) dL_law_992 ?_
  rw [← ez1]
  have hPc := hP.sub (ws' := wc_X6_forget cy qx (ux 11) (ux 12) (ux 13) (ux 14) (ux 0) (ux 5) (ux 10) (ux 15) (ux 16) (ux 17) (ux 19) (ux 20) (ux 21) torn seen) [0, 12, 13, 14, 15] rfl
  have hDc := hD.sub (ws' := wc_X6_forget cy qx (ux 11) (ux 12) (ux 13) (ux 14) (ux 0) (ux 5) (ux 10) (ux 15) (ux 16) (ux 17) (ux 19) (ux 20) (ux 21) torn seen) [0, 12, 13, 14, 15] (by decide +kernel) rfl
  refine cl_i (fun (u : s_V) => lw_W cy qx ux qm um torn now trial wg0 wg1 wg2 wg3 u k0 k1 iw0 iw1 is0 is1 (sf 0) (sf 1) (sf 2) (sf 3) tp rd row best (nI pe) dp mb mr mh (nI tn) po be so va rd.2.2 wr he sp bc bm l1 l2 l3 torn (nf_a S) (nf_a N) kp (nf_a Dr) tape row2 best2 heavy byk lan siz cel bef) (va_runV (As := [.int z1]) (rest := []) (C := RX6) ⟨hx, hb, hml, hown, hts⟩ (c_X6_forget l D cy H.size qx (ux 11) (ux 12) (ux 13) (ux 14) (ux 0) (ux 5) (ux 10) (ux 15) (ux 16) (ux 17) (ux 19) (ux 20) (ux 21) torn seen z1 e1) ⟨callB_of 1 hts (wg_law k_591) rfl rfl rfl (htw _ k_1) (htw _ k_588) (by decide +kernel) ⟨by decide, by decide⟩, (htw _ k_589), (htw _ k_590)⟩ ⟨st_blind, va_recv hK.1 hPc (ci := 6) (q0 := 0) rfl rfl, fun U hU hW => st_pre hK hPc hDc hU hW⟩ rfl rfl hl.1 rfl (lv_room (Nat.le_of_ble_eq_true rfl)) dL_law_993 ⟨by decide, by decide⟩) hP hD hS hA [0, 12, 13, 14, 15] [1, 2, 3, 4, 5, 6, 7, 8, 9, 10, 11, 16, 17, 18, 19, 20, 21, 22, 23, 24, 25, 26, 27, 28, 29, 30, 31, 32, 33, 34, 35, 36, 37, 38, 39, 40, 41, 42, 43, 44, 45, 46, 47, 48, 49, 50, 51, 52, 53, 54, 55, 56, 57, 58, 59, 60, 61, 62, 63, 64, 65, 66, 67, 68, 69, 70, 71, 72, 73, 74, 75, 76, 77, 78, 79, 80, 81, 82, 83, 84] [80, 0, 1, 2, 3, 4, 5, 6, 7, 8, 9, 10, 81, 82, 83, 84, 11, 12, 13, 14, 15, 16, 17, 18, 19, 20, 21, 22, 23, 24, 25, 26, 27, 28, 29, 30, 31, 32, 33, 34, 35, 36, 37, 38, 39, 40, 41, 42, 43, 44, 45, 46, 47, 48, 49, 50, 51, 52, 53, 54, 55, 56, 57, 58, 59, 60, 61, 62, 63, 64, 65, 66, 67, 68, 69, 70, 71, 72, 73, 74, 75, 76, 77, 78, 79] rfl rfl (by decide +kernel) (by decide +kernel) (by decide +kernel) (fun _ => rfl) (fun r0 u H locs hw hP hD hS => ?_)
  obtain ⟨rfl, rfl⟩ := hw
  have hP : va_P D vwCl (lw_W cy qx ux qm um torn now trial wg0 wg1 wg2 wg3 v2 k0 k1 iw0 iw1 is0 is1 (sf 0) (sf 1) (sf 2) (sf 3) tp rd row best (nI pe) dp mb mr mh (nI tn) po be so va rd.2.2 wr he sp bc bm l1 l2 l3 torn (nf_a S) (nf_a N) kp (nf_a Dr) tape row2 best2 heavy byk lan siz cel bef) H := hP
  have hD : va_D (fun q : Nat => s.heap.size ≤ q) (lw_W cy qx ux qm um torn now trial wg0 wg1 wg2 wg3 v2 k0 k1 iw0 iw1 is0 is1 (sf 0) (sf 1) (sf 2) (sf 3) tp rd row best (nI pe) dp mb mr mh (nI tn) po be so va rd.2.2 wr he sp bc bm l1 l2 l3 torn (nf_a S) (nf_a N) kp (nf_a Dr) tape row2 best2 heavy byk lan siz cel bef) := hD
  refine W.eq (g2 := F0 m 996 ls [.int r]) rfl ?_
  refine lv_aload_n hx hb dL_law_996 rfl (lv_at hl 3 rfl) ?_
  refine lv_aload_n hx hb dL_law_997 rfl (lv_at hl 1 rfl) ?_
  refine lv_iload_n hx hb dL_law_998 rfl (lv_at hl 0 rfl) ?_
  refine lv_iconst (v := nI 1) hx hb dL_law_999 (by decide) ?_
  refine lv_iadd hx hb dL_law_1000 ?_
  refine va_sld hx hb hX hbl hbA hS (lx_v (k := 1) hi5 (by omega) hL) dL_law_1001 ?_
  rw [← ez1]
  have hPc := hP.sub (ws' := wc_X7_forget cy qm (um 0) (um 1) (um 2) (um 3) (um 4) (um 5) (um 6) (um 7) (um 8) (um 9) (um 10) (um 11) (um 12) (nI pe) dp mb mr mh (nI tn) po be so va rd.2.2 wr he sp bc bm l1 l2 l3 torn (nf_a S)) [71, 72] rfl
  have hDc := hD.sub (ws' := wc_X7_forget cy qm (um 0) (um 1) (um 2) (um 3) (um 4) (um 5) (um 6) (um 7) (um 8) (um 9) (um 10) (um 11) (um 12) (nI pe) dp mb mr mh (nI tn) po be so va rd.2.2 wr he sp bc bm l1 l2 l3 torn (nf_a S)) [71, 72] (by decide +kernel) rfl
  refine cl_i (fun (u : (Nat → Int32)) => lw_W cy qx ux qm um torn now trial wg0 wg1 wg2 wg3 v2 k0 k1 iw0 iw1 is0 is1 (sf 0) (sf 1) (sf 2) (sf 3) tp rd row best (nI pe) dp mb mr mh (nI tn) po be so va rd.2.2 wr he sp bc bm l1 l2 l3 torn u (nf_a N) kp (nf_a Dr) tape row2 best2 heavy byk lan siz cel bef) (va_runV (As := [.int z1]) (rest := [.int r]) (C := RX7) ⟨hx, hb, hml, hown, hts⟩ (c_X7_forget l D cy H.size qm (um 0) (um 1) (um 2) (um 3) (um 4) (um 5) (um 6) (um 7) (um 8) (um 9) (um 10) (um 11) (um 12) (nI pe) dp mb mr mh (nI tn) po be so va rd.2.2 wr he sp bc bm l1 l2 l3 torn (nf_a S) z1 e2) ⟨callB_of 1 hts (wg_law k_1084) rfl rfl rfl (htw _ k_8) (htw _ k_1081) (by decide +kernel) ⟨by decide, by decide⟩, (htw _ k_1082), (htw _ k_1083)⟩ ⟨st_blind, va_recv hK.1 hPc (ci := 7) (q0 := 0) rfl rfl, fun U hU hW => st_pre hK hPc hDc hU hW⟩ rfl rfl hl.1 rfl (lv_room (Nat.le_of_ble_eq_true rfl)) dL_law_1002 ⟨by decide, by decide⟩) hP hD hS hA [71, 72] [0, 1, 2, 3, 4, 5, 6, 7, 8, 9, 10, 11, 12, 13, 14, 15, 16, 17, 18, 19, 20, 21, 22, 23, 24, 25, 26, 27, 28, 29, 30, 31, 32, 33, 34, 35, 36, 37, 38, 39, 40, 41, 42, 43, 44, 45, 46, 47, 48, 49, 50, 51, 52, 53, 54, 55, 56, 57, 58, 59, 60, 61, 62, 63, 64, 65, 66, 67, 68, 69, 70, 73, 74, 75, 76, 77, 78, 79, 80, 81, 82, 83, 84] [0, 1, 2, 3, 4, 5, 6, 7, 8, 9, 10, 11, 12, 13, 14, 15, 16, 17, 18, 19, 20, 21, 22, 23, 24, 25, 26, 27, 28, 29, 30, 31, 32, 33, 34, 35, 36, 37, 38, 39, 40, 41, 42, 43, 44, 45, 46, 47, 48, 49, 50, 51, 52, 53, 54, 55, 56, 57, 58, 59, 60, 61, 62, 63, 64, 65, 66, 67, 68, 69, 70, 83, 84, 71, 72, 73, 74, 75, 76, 77, 78, 79, 80, 81, 82] rfl rfl (by decide +kernel) (by decide +kernel) (by decide +kernel) (fun _ => rfl) (fun r0 u H locs hw hP hD hS => ?_)
  obtain ⟨rfl, rfl⟩ := hw
  have hP : va_P D vwCl (lw_W cy qx ux qm um torn now trial wg0 wg1 wg2 wg3 v2 k0 k1 iw0 iw1 is0 is1 (sf 0) (sf 1) (sf 2) (sf 3) tp rd row best (nI pe) dp mb mr mh (nI tn) po be so va rd.2.2 wr he sp bc bm l1 l2 l3 torn (nf_a S2) (nf_a N) kp (nf_a Dr) tape row2 best2 heavy byk lan siz cel bef) H := hP
  have hD : va_D (fun q : Nat => s.heap.size ≤ q) (lw_W cy qx ux qm um torn now trial wg0 wg1 wg2 wg3 v2 k0 k1 iw0 iw1 is0 is1 (sf 0) (sf 1) (sf 2) (sf 3) tp rd row best (nI pe) dp mb mr mh (nI tn) po be so va rd.2.2 wr he sp bc bm l1 l2 l3 torn (nf_a S2) (nf_a N) kp (nf_a Dr) tape row2 best2 heavy byk lan siz cel bef) := hD
  refine W.eq (g2 := F0 m 1005 ls [.int r, .int r]) rfl ?_
  refine lv_icmp_eq (tgt := 1353) hx hb dL_law_1005 (by decide) (fun _ => ?_) (fun cc => absurd rfl cc)
  have hR2 : lw_R cy qx ux qm um (lw_W cy qx ux qm um torn now trial wg0 wg1 wg2 wg3 v2 k0 k1 iw0 iw1 is0 is1 (sf 0) (sf 1) (sf 2) (sf 3) tp rd row best (nI pe) dp mb mr mh (nI tn) po be so va rd.2.2 wr he sp bc bm l1 l2 l3 torn (nf_a S2) (nf_a N) kp (nf_a Dr) tape row2 best2 heavy byk lan siz cel bef) := lw_mk (sf := sf) rfl rfl g1 (im_cg (fun i _ _ => o46 i (by omega)) hi0) (im_cg (fun i _ _ => o46 i (by omega)) hi1) hs4 htp
  exact lx_T C0 kk _ _ _ _ hR2 hP hD hS (lv_sub hl [0, 1, 2, 3] rfl)
set_option maxHeartbeats 8000000 in
set_option maxRecDepth 100000 in
theorem lp_28 {p : Program} {l : Launch} {e : Env} {s : State} {m : MethodId} {below : List Frame} {meth : Method} {c : Code} {b L : Nat} {xs : Nat → Int32} {D : va_G} {cy : Nat → ClassId} {X : (Nat → Nat) × (Nat → Nat)} {qx qm : Nat} {ux um : Nat → Nat} {i : Nat} (C0 : lx_C p s m meth c b L xs D cy X) (hi5 : i + 5 ≤ L) (kk : lx_G p l e s m below meth c b D cy qx ux qm um (nI i + 5) 18) : lx_G p l e s m below meth c b D cy qx ux qm um (nI i) 1010 := by
  intro ws H locs ls hR hP hD hS hl
  obtain ⟨⟨hx, hb, hr0, hml, hown, hts, hX, hbl, hlocks, hgv⟩, hL, hK, hE⟩ := id C0
  have htw := lx_h hts
  have hA : ∀ q : Nat, s.heap.size ≤ q → (fun q : Nat => s.heap.size ≤ q) q := fun _ h => h
  have hbA : ¬ (fun q : Nat => s.heap.size ≤ q) b := Nat.not_le.mpr hbl
  obtain ⟨pe, tn, S, N, Dr, torn, now, trial, wg0, wg1, wg2, wg3, seen, k0, k1, iw0, iw1, is0, is1, sf, tp, rd, row, best, dp, mb, mr, mh, po, be, so, va, wr, he, sp, bc, bm, l1, l2, l3, kp, tape, row2, best2, heavy, byk, lan, siz, cel, bef, rfl, h1, hi0, hi1, hs4, htp⟩ := hR
  obtain ⟨z1, ez1⟩ : ∃ z, z = xs (nI i + nI 1).toNatClampNeg := ⟨_, rfl⟩
  obtain ⟨r, t2, q, e1, e2⟩ := op_kinds (f := 5000) (N := N) (x := he) (y := sp) (t := trial) (H := heavy) h1 (by decide) z1
  refine lv_aload_n hx hb dL_law_1010 rfl (lv_at hl 2 rfl) ?_
  refine lv_aload_n hx hb dL_law_1011 rfl (lv_at hl 1 rfl) ?_
  refine lv_iload_n hx hb dL_law_1012 rfl (lv_at hl 0 rfl) ?_
  refine lv_iconst (v := nI 1) hx hb dL_law_1013 (by decide) ?_
  refine lv_iadd hx hb dL_law_1014 ?_
  refine va_sld hx hb hX hbl hbA hS (lx_v (k := 1) hi5 (by omega) hL) dL_law_1015 ?_
  rw [← ez1]
  have hPc := hP.sub (ws' := wc_X6_kinds cy qx (ux 0) (ux 1) (ux 2) (ux 3) (ux 4) (ux 5) (ux 6) (ux 7) (ux 8) (ux 9) (ux 11) (ux 12) (ux 13) (ux 14) (ux 10) (ux 15) (ux 16) (ux 17) (ux 19) (ux 20) (ux 21) torn now trial seen) [0, 1, 2, 3, 4, 5, 6, 7, 8, 9, 10, 12, 13, 14, 15] rfl
  have hDc := hD.sub (ws' := wc_X6_kinds cy qx (ux 0) (ux 1) (ux 2) (ux 3) (ux 4) (ux 5) (ux 6) (ux 7) (ux 8) (ux 9) (ux 11) (ux 12) (ux 13) (ux 14) (ux 10) (ux 15) (ux 16) (ux 17) (ux 19) (ux 20) (ux 21) torn now trial seen) [0, 1, 2, 3, 4, 5, 6, 7, 8, 9, 10, 12, 13, 14, 15] (by decide +kernel) rfl
  refine cl_i (fun (u : s_W) => lw_W cy qx ux qm um torn now u wg0 wg1 wg2 wg3 seen k0 k1 iw0 iw1 is0 is1 (sf 0) (sf 1) (sf 2) (sf 3) tp rd row best (nI pe) dp mb mr mh (nI tn) po be so va rd.2.2 wr he sp bc bm l1 l2 l3 torn (nf_a S) (nf_a N) kp (nf_a Dr) tape row2 best2 heavy byk lan siz cel bef) (va_runV (As := [.int z1]) (rest := []) (C := RX6) ⟨hx, hb, hml, hown, hts⟩ (c_X6_kinds l D cy H.size qx (ux 0) (ux 1) (ux 2) (ux 3) (ux 4) (ux 5) (ux 6) (ux 7) (ux 8) (ux 9) (ux 11) (ux 12) (ux 13) (ux 14) (ux 10) (ux 15) (ux 16) (ux 17) (ux 19) (ux 20) (ux 21) torn now trial seen z1 (f := 5000) e1) ⟨callB_of 1 hts (wg_law k_595) rfl rfl rfl (htw _ k_1) (htw _ k_592) (by decide +kernel) ⟨by decide, by decide⟩, (htw _ k_593), (htw _ k_594)⟩ ⟨st_blind, va_recv hK.1 hPc (ci := 6) (q0 := 0) rfl rfl, fun U hU hW => st_pre hK hPc hDc hU hW⟩ rfl rfl hl.1 rfl (lv_room (Nat.le_of_ble_eq_true rfl)) dL_law_1016 ⟨by decide, by decide⟩) hP hD hS hA [0, 1, 2, 3, 4, 5, 6, 7, 8, 9, 10, 12, 13, 14, 15] [11, 16, 17, 18, 19, 20, 21, 22, 23, 24, 25, 26, 27, 28, 29, 30, 31, 32, 33, 34, 35, 36, 37, 38, 39, 40, 41, 42, 43, 44, 45, 46, 47, 48, 49, 50, 51, 52, 53, 54, 55, 56, 57, 58, 59, 60, 61, 62, 63, 64, 65, 66, 67, 68, 69, 70, 71, 72, 73, 74, 75, 76, 77, 78, 79, 80, 81, 82, 83, 84] [70, 71, 72, 73, 74, 75, 76, 77, 78, 79, 80, 0, 81, 82, 83, 84, 1, 2, 3, 4, 5, 6, 7, 8, 9, 10, 11, 12, 13, 14, 15, 16, 17, 18, 19, 20, 21, 22, 23, 24, 25, 26, 27, 28, 29, 30, 31, 32, 33, 34, 35, 36, 37, 38, 39, 40, 41, 42, 43, 44, 45, 46, 47, 48, 49, 50, 51, 52, 53, 54, 55, 56, 57, 58, 59, 60, 61, 62, 63, 64, 65, 66, 67, 68, 69] rfl rfl (by decide +kernel) (by decide +kernel) (by decide +kernel) (fun _ => rfl) (fun r0 u H locs hw hP hD hS => ?_)
  obtain ⟨rfl, rfl⟩ := hw
  have hP : va_P D vwCl (lw_W cy qx ux qm um torn now t2 wg0 wg1 wg2 wg3 seen k0 k1 iw0 iw1 is0 is1 (sf 0) (sf 1) (sf 2) (sf 3) tp rd row best (nI pe) dp mb mr mh (nI tn) po be so va rd.2.2 wr he sp bc bm l1 l2 l3 torn (nf_a S) (nf_a N) kp (nf_a Dr) tape row2 best2 heavy byk lan siz cel bef) H := hP
  have hD : va_D (fun q : Nat => s.heap.size ≤ q) (lw_W cy qx ux qm um torn now t2 wg0 wg1 wg2 wg3 seen k0 k1 iw0 iw1 is0 is1 (sf 0) (sf 1) (sf 2) (sf 3) tp rd row best (nI pe) dp mb mr mh (nI tn) po be so va rd.2.2 wr he sp bc bm l1 l2 l3 torn (nf_a S) (nf_a N) kp (nf_a Dr) tape row2 best2 heavy byk lan siz cel bef) := hD
  refine W.eq (g2 := F0 m 1019 ls [.int r]) rfl ?_
  refine lv_aload_n hx hb dL_law_1019 rfl (lv_at hl 3 rfl) ?_
  refine lv_aload_n hx hb dL_law_1020 rfl (lv_at hl 1 rfl) ?_
  refine lv_iload_n hx hb dL_law_1021 rfl (lv_at hl 0 rfl) ?_
  refine lv_iconst (v := nI 1) hx hb dL_law_1022 (by decide) ?_
  refine lv_iadd hx hb dL_law_1023 ?_
  refine va_sld hx hb hX hbl hbA hS (lx_v (k := 1) hi5 (by omega) hL) dL_law_1024 ?_
  rw [← ez1]
  have hPc := hP.sub (ws' := wc_X7_kinds cy qm (um 0) (um 1) (um 7) (um 2) (um 3) (um 4) (um 5) (um 6) (um 8) (um 9) (um 10) (um 11) (um 12) (nI pe) dp mb mr mh (nI tn) po be so va rd.2.2 wr he sp bc bm l1 l2 l3 torn (nf_a S) (nf_a N) heavy) [71, 72, 73, 79] rfl
  have hDc := hD.sub (ws' := wc_X7_kinds cy qm (um 0) (um 1) (um 7) (um 2) (um 3) (um 4) (um 5) (um 6) (um 8) (um 9) (um 10) (um 11) (um 12) (nI pe) dp mb mr mh (nI tn) po be so va rd.2.2 wr he sp bc bm l1 l2 l3 torn (nf_a S) (nf_a N) heavy) [71, 72, 73, 79] (by decide +kernel) rfl
  refine cl_i (fun (u : Int32 × Int32 × (Nat → Int32) × (Nat → Int32)) => lw_W cy qx ux qm um torn now t2 wg0 wg1 wg2 wg3 seen k0 k1 iw0 iw1 is0 is1 (sf 0) (sf 1) (sf 2) (sf 3) tp rd row best (nI pe) dp mb mr mh (nI tn) po be so va rd.2.2 wr u.1 u.2.1 bc bm l1 l2 l3 torn (nf_a S) u.2.2.1 kp (nf_a Dr) tape row2 best2 u.2.2.2 byk lan siz cel bef) (va_runV (As := [.int z1]) (rest := [.int r]) (C := RX7) ⟨hx, hb, hml, hown, hts⟩ (c_X7_kinds l D cy H.size qm (um 0) (um 1) (um 7) (um 2) (um 3) (um 4) (um 5) (um 6) (um 8) (um 9) (um 10) (um 11) (um 12) (nI pe) dp mb mr mh (nI tn) po be so va rd.2.2 wr he sp bc bm l1 l2 l3 torn (nf_a S) (nf_a N) heavy z1 (f := 5000) e2) ⟨callB_of 1 hts (wg_law k_1088) rfl rfl rfl (htw _ k_8) (htw _ k_1085) (by decide +kernel) ⟨by decide, by decide⟩, (htw _ k_1086), (htw _ k_1087)⟩ ⟨st_blind, va_recv hK.1 hPc (ci := 7) (q0 := 0) rfl rfl, fun U hU hW => st_pre hK hPc hDc hU hW⟩ rfl rfl hl.1 rfl (lv_room (Nat.le_of_ble_eq_true rfl)) dL_law_1025 ⟨by decide, by decide⟩) hP hD hS hA [71, 72, 73, 79] [0, 1, 2, 3, 4, 5, 6, 7, 8, 9, 10, 11, 12, 13, 14, 15, 16, 17, 18, 19, 20, 21, 22, 23, 24, 25, 26, 27, 28, 29, 30, 31, 32, 33, 34, 35, 36, 37, 38, 39, 40, 41, 42, 43, 44, 45, 46, 47, 48, 49, 50, 51, 52, 53, 54, 55, 56, 57, 58, 59, 60, 61, 62, 63, 64, 65, 66, 67, 68, 69, 70, 74, 75, 76, 77, 78, 80, 81, 82, 83, 84] [0, 1, 2, 3, 4, 5, 6, 7, 8, 9, 10, 11, 12, 13, 14, 15, 16, 17, 18, 19, 20, 21, 22, 23, 24, 25, 26, 27, 28, 29, 30, 31, 32, 33, 34, 35, 36, 37, 38, 39, 40, 41, 42, 43, 44, 45, 46, 47, 48, 49, 50, 51, 52, 53, 54, 55, 56, 57, 58, 59, 60, 61, 62, 63, 64, 65, 66, 67, 68, 69, 70, 81, 82, 83, 71, 72, 73, 74, 75, 84, 76, 77, 78, 79, 80] rfl rfl (by decide +kernel) (by decide +kernel) (by decide +kernel) (fun _ => rfl) (fun r0 u H locs hw hP hD hS => ?_)
  obtain ⟨rfl, rfl⟩ := hw
  have hP : va_P D vwCl (lw_W cy qx ux qm um torn now t2 wg0 wg1 wg2 wg3 seen k0 k1 iw0 iw1 is0 is1 (sf 0) (sf 1) (sf 2) (sf 3) tp rd row best (nI pe) dp mb mr mh (nI tn) po be so va rd.2.2 wr q.1 q.2.1 bc bm l1 l2 l3 torn (nf_a S) q.2.2.1 kp (nf_a Dr) tape row2 best2 q.2.2.2 byk lan siz cel bef) H := hP
  have hD : va_D (fun q : Nat => s.heap.size ≤ q) (lw_W cy qx ux qm um torn now t2 wg0 wg1 wg2 wg3 seen k0 k1 iw0 iw1 is0 is1 (sf 0) (sf 1) (sf 2) (sf 3) tp rd row best (nI pe) dp mb mr mh (nI tn) po be so va rd.2.2 wr q.1 q.2.1 bc bm l1 l2 l3 torn (nf_a S) q.2.2.1 kp (nf_a Dr) tape row2 best2 q.2.2.2 byk lan siz cel bef) := hD
  refine W.eq (g2 := F0 m 1028 ls [.int r, .int r]) rfl ?_
  refine lv_icmp_eq (tgt := 1353) hx hb dL_law_1028 (by decide) (fun _ => ?_) (fun cc => absurd rfl cc)
  have hR2 : lw_R cy qx ux qm um (lw_W cy qx ux qm um torn now t2 wg0 wg1 wg2 wg3 seen k0 k1 iw0 iw1 is0 is1 (sf 0) (sf 1) (sf 2) (sf 3) tp rd row best (nI pe) dp mb mr mh (nI tn) po be so va rd.2.2 wr q.1 q.2.1 bc bm l1 l2 l3 torn (nf_a S) q.2.2.1 kp (nf_a Dr) tape row2 best2 q.2.2.2 byk lan siz cel bef) := lw_mk (sf := sf) rfl rfl h1 hi0 hi1 hs4 htp
  exact lx_T C0 kk _ _ _ _ hR2 hP hD hS (lv_sub hl [0, 1, 2, 3] rfl)
set_option maxHeartbeats 8000000 in
set_option maxRecDepth 100000 in
theorem lp_29 {p : Program} {l : Launch} {e : Env} {s : State} {m : MethodId} {below : List Frame} {meth : Method} {c : Code} {b L : Nat} {xs : Nat → Int32} {D : va_G} {cy : Nat → ClassId} {X : (Nat → Nat) × (Nat → Nat)} {qx qm : Nat} {ux um : Nat → Nat} {i : Nat} (C0 : lx_C p s m meth c b L xs D cy X) (hi5 : i + 5 ≤ L) (kk : lx_G p l e s m below meth c b D cy qx ux qm um (nI i + 5) 18) : lx_G p l e s m below meth c b D cy qx ux qm um (nI i) 1033 := by
  intro ws H locs ls hR hP hD hS hl
  obtain ⟨⟨hx, hb, hr0, hml, hown, hts, hX, hbl, hlocks, hgv⟩, hL, hK, hE⟩ := id C0
  have htw := lx_h hts
  have hA : ∀ q : Nat, s.heap.size ≤ q → (fun q : Nat => s.heap.size ≤ q) q := fun _ h => h
  have hbA : ¬ (fun q : Nat => s.heap.size ≤ q) b := Nat.not_le.mpr hbl
  obtain ⟨pe, tn, S, N, Dr, torn, now, trial, wg0, wg1, wg2, wg3, seen, k0, k1, iw0, iw1, is0, is1, sf, tp, rd, row, best, dp, mb, mr, mh, po, be, so, va, wr, he, sp, bc, bm, l1, l2, l3, kp, tape, row2, best2, heavy, byk, lan, siz, cel, bef, rfl, h1, hi0, hi1, hs4, htp⟩ := hR
  obtain ⟨z1, ez1⟩ : ∃ z, z = xs (nI i + nI 1).toNatClampNeg := ⟨_, rfl⟩
  obtain ⟨r, t2, q, e1, e2⟩ := op_griefs (f := 5000) (N := N) (x := he) (y := sp) (t := trial) (H := heavy) h1 (by decide) z1
  refine lv_aload_n hx hb dL_law_1033 rfl (lv_at hl 2 rfl) ?_
  refine lv_aload_n hx hb dL_law_1034 rfl (lv_at hl 1 rfl) ?_
  refine lv_iload_n hx hb dL_law_1035 rfl (lv_at hl 0 rfl) ?_
  refine lv_iconst (v := nI 1) hx hb dL_law_1036 (by decide) ?_
  refine lv_iadd hx hb dL_law_1037 ?_
  refine va_sld hx hb hX hbl hbA hS (lx_v (k := 1) hi5 (by omega) hL) dL_law_1038 ?_
  rw [← ez1]
  have hPc := hP.sub (ws' := wc_X6_griefs cy qx (ux 0) (ux 1) (ux 2) (ux 3) (ux 4) (ux 5) (ux 6) (ux 7) (ux 8) (ux 9) (ux 11) (ux 12) (ux 13) (ux 14) (ux 10) (ux 15) (ux 16) (ux 17) (ux 19) (ux 20) (ux 21) torn now trial seen) [0, 1, 2, 3, 4, 5, 6, 7, 8, 9, 10, 12, 13, 14, 15] rfl
  have hDc := hD.sub (ws' := wc_X6_griefs cy qx (ux 0) (ux 1) (ux 2) (ux 3) (ux 4) (ux 5) (ux 6) (ux 7) (ux 8) (ux 9) (ux 11) (ux 12) (ux 13) (ux 14) (ux 10) (ux 15) (ux 16) (ux 17) (ux 19) (ux 20) (ux 21) torn now trial seen) [0, 1, 2, 3, 4, 5, 6, 7, 8, 9, 10, 12, 13, 14, 15] (by decide +kernel) rfl
  refine cl_i (fun (u : s_W) => lw_W cy qx ux qm um torn now u wg0 wg1 wg2 wg3 seen k0 k1 iw0 iw1 is0 is1 (sf 0) (sf 1) (sf 2) (sf 3) tp rd row best (nI pe) dp mb mr mh (nI tn) po be so va rd.2.2 wr he sp bc bm l1 l2 l3 torn (nf_a S) (nf_a N) kp (nf_a Dr) tape row2 best2 heavy byk lan siz cel bef) (va_runV (As := [.int z1]) (rest := []) (C := RX6) ⟨hx, hb, hml, hown, hts⟩ (c_X6_griefs l D cy H.size qx (ux 0) (ux 1) (ux 2) (ux 3) (ux 4) (ux 5) (ux 6) (ux 7) (ux 8) (ux 9) (ux 11) (ux 12) (ux 13) (ux 14) (ux 10) (ux 15) (ux 16) (ux 17) (ux 19) (ux 20) (ux 21) torn now trial seen z1 (f := 5000) e1) ⟨callB_of 1 hts (wg_law k_614) rfl rfl rfl (htw _ k_1) (htw _ k_611) (by decide +kernel) ⟨by decide, by decide⟩, (htw _ k_612), (htw _ k_613)⟩ ⟨st_blind, va_recv hK.1 hPc (ci := 6) (q0 := 0) rfl rfl, fun U hU hW => st_pre hK hPc hDc hU hW⟩ rfl rfl hl.1 rfl (lv_room (Nat.le_of_ble_eq_true rfl)) dL_law_1039 ⟨by decide, by decide⟩) hP hD hS hA [0, 1, 2, 3, 4, 5, 6, 7, 8, 9, 10, 12, 13, 14, 15] [11, 16, 17, 18, 19, 20, 21, 22, 23, 24, 25, 26, 27, 28, 29, 30, 31, 32, 33, 34, 35, 36, 37, 38, 39, 40, 41, 42, 43, 44, 45, 46, 47, 48, 49, 50, 51, 52, 53, 54, 55, 56, 57, 58, 59, 60, 61, 62, 63, 64, 65, 66, 67, 68, 69, 70, 71, 72, 73, 74, 75, 76, 77, 78, 79, 80, 81, 82, 83, 84] [70, 71, 72, 73, 74, 75, 76, 77, 78, 79, 80, 0, 81, 82, 83, 84, 1, 2, 3, 4, 5, 6, 7, 8, 9, 10, 11, 12, 13, 14, 15, 16, 17, 18, 19, 20, 21, 22, 23, 24, 25, 26, 27, 28, 29, 30, 31, 32, 33, 34, 35, 36, 37, 38, 39, 40, 41, 42, 43, 44, 45, 46, 47, 48, 49, 50, 51, 52, 53, 54, 55, 56, 57, 58, 59, 60, 61, 62, 63, 64, 65, 66, 67, 68, 69] rfl rfl (by decide +kernel) (by decide +kernel) (by decide +kernel) (fun _ => rfl) (fun r0 u H locs hw hP hD hS => ?_)
  obtain ⟨rfl, rfl⟩ := hw
  have hP : va_P D vwCl (lw_W cy qx ux qm um torn now t2 wg0 wg1 wg2 wg3 seen k0 k1 iw0 iw1 is0 is1 (sf 0) (sf 1) (sf 2) (sf 3) tp rd row best (nI pe) dp mb mr mh (nI tn) po be so va rd.2.2 wr he sp bc bm l1 l2 l3 torn (nf_a S) (nf_a N) kp (nf_a Dr) tape row2 best2 heavy byk lan siz cel bef) H := hP
  have hD : va_D (fun q : Nat => s.heap.size ≤ q) (lw_W cy qx ux qm um torn now t2 wg0 wg1 wg2 wg3 seen k0 k1 iw0 iw1 is0 is1 (sf 0) (sf 1) (sf 2) (sf 3) tp rd row best (nI pe) dp mb mr mh (nI tn) po be so va rd.2.2 wr he sp bc bm l1 l2 l3 torn (nf_a S) (nf_a N) kp (nf_a Dr) tape row2 best2 heavy byk lan siz cel bef) := hD
  refine W.eq (g2 := F0 m 1042 ls [.int r]) rfl ?_
  refine lv_aload_n hx hb dL_law_1042 rfl (lv_at hl 3 rfl) ?_
  refine lv_aload_n hx hb dL_law_1043 rfl (lv_at hl 1 rfl) ?_
  refine lv_iload_n hx hb dL_law_1044 rfl (lv_at hl 0 rfl) ?_
  refine lv_iconst (v := nI 1) hx hb dL_law_1045 (by decide) ?_
  refine lv_iadd hx hb dL_law_1046 ?_
  refine va_sld hx hb hX hbl hbA hS (lx_v (k := 1) hi5 (by omega) hL) dL_law_1047 ?_
  rw [← ez1]
  have hPc := hP.sub (ws' := wc_X7_griefs cy qm (um 0) (um 1) (um 7) (um 2) (um 3) (um 4) (um 5) (um 6) (um 8) (um 9) (um 10) (um 11) (um 12) (nI pe) dp mb mr mh (nI tn) po be so va rd.2.2 wr he sp bc bm l1 l2 l3 torn (nf_a S) (nf_a N) heavy) [71, 72, 73, 79] rfl
  have hDc := hD.sub (ws' := wc_X7_griefs cy qm (um 0) (um 1) (um 7) (um 2) (um 3) (um 4) (um 5) (um 6) (um 8) (um 9) (um 10) (um 11) (um 12) (nI pe) dp mb mr mh (nI tn) po be so va rd.2.2 wr he sp bc bm l1 l2 l3 torn (nf_a S) (nf_a N) heavy) [71, 72, 73, 79] (by decide +kernel) rfl
  refine cl_i (fun (u : Int32 × Int32 × (Nat → Int32) × (Nat → Int32)) => lw_W cy qx ux qm um torn now t2 wg0 wg1 wg2 wg3 seen k0 k1 iw0 iw1 is0 is1 (sf 0) (sf 1) (sf 2) (sf 3) tp rd row best (nI pe) dp mb mr mh (nI tn) po be so va rd.2.2 wr u.1 u.2.1 bc bm l1 l2 l3 torn (nf_a S) u.2.2.1 kp (nf_a Dr) tape row2 best2 u.2.2.2 byk lan siz cel bef) (va_runV (As := [.int z1]) (rest := [.int r]) (C := RX7) ⟨hx, hb, hml, hown, hts⟩ (c_X7_griefs l D cy H.size qm (um 0) (um 1) (um 7) (um 2) (um 3) (um 4) (um 5) (um 6) (um 8) (um 9) (um 10) (um 11) (um 12) (nI pe) dp mb mr mh (nI tn) po be so va rd.2.2 wr he sp bc bm l1 l2 l3 torn (nf_a S) (nf_a N) heavy z1 (f := 5000) e2) ⟨callB_of 1 hts (wg_law k_1100) rfl rfl rfl (htw _ k_8) (htw _ k_1097) (by decide +kernel) ⟨by decide, by decide⟩, (htw _ k_1098), (htw _ k_1099)⟩ ⟨st_blind, va_recv hK.1 hPc (ci := 7) (q0 := 0) rfl rfl, fun U hU hW => st_pre hK hPc hDc hU hW⟩ rfl rfl hl.1 rfl (lv_room (Nat.le_of_ble_eq_true rfl)) dL_law_1048 ⟨by decide, by decide⟩) hP hD hS hA [71, 72, 73, 79] [0, 1, 2, 3, 4, 5, 6, 7, 8, 9, 10, 11, 12, 13, 14, 15, 16, 17, 18, 19, 20, 21, 22, 23, 24, 25, 26, 27, 28, 29, 30, 31, 32, 33, 34, 35, 36, 37, 38, 39, 40, 41, 42, 43, 44, 45, 46, 47, 48, 49, 50, 51, 52, 53, 54, 55, 56, 57, 58, 59, 60, 61, 62, 63, 64, 65, 66, 67, 68, 69, 70, 74, 75, 76, 77, 78, 80, 81, 82, 83, 84] [0, 1, 2, 3, 4, 5, 6, 7, 8, 9, 10, 11, 12, 13, 14, 15, 16, 17, 18, 19, 20, 21, 22, 23, 24, 25, 26, 27, 28, 29, 30, 31, 32, 33, 34, 35, 36, 37, 38, 39, 40, 41, 42, 43, 44, 45, 46, 47, 48, 49, 50, 51, 52, 53, 54, 55, 56, 57, 58, 59, 60, 61, 62, 63, 64, 65, 66, 67, 68, 69, 70, 81, 82, 83, 71, 72, 73, 74, 75, 84, 76, 77, 78, 79, 80] rfl rfl (by decide +kernel) (by decide +kernel) (by decide +kernel) (fun _ => rfl) (fun r0 u H locs hw hP hD hS => ?_)
  obtain ⟨rfl, rfl⟩ := hw
  have hP : va_P D vwCl (lw_W cy qx ux qm um torn now t2 wg0 wg1 wg2 wg3 seen k0 k1 iw0 iw1 is0 is1 (sf 0) (sf 1) (sf 2) (sf 3) tp rd row best (nI pe) dp mb mr mh (nI tn) po be so va rd.2.2 wr q.1 q.2.1 bc bm l1 l2 l3 torn (nf_a S) q.2.2.1 kp (nf_a Dr) tape row2 best2 q.2.2.2 byk lan siz cel bef) H := hP
  have hD : va_D (fun q : Nat => s.heap.size ≤ q) (lw_W cy qx ux qm um torn now t2 wg0 wg1 wg2 wg3 seen k0 k1 iw0 iw1 is0 is1 (sf 0) (sf 1) (sf 2) (sf 3) tp rd row best (nI pe) dp mb mr mh (nI tn) po be so va rd.2.2 wr q.1 q.2.1 bc bm l1 l2 l3 torn (nf_a S) q.2.2.1 kp (nf_a Dr) tape row2 best2 q.2.2.2 byk lan siz cel bef) := hD
  refine W.eq (g2 := F0 m 1051 ls [.int r, .int r]) rfl ?_
  refine lv_icmp_eq (tgt := 1353) hx hb dL_law_1051 (by decide) (fun _ => ?_) (fun cc => absurd rfl cc)
  have hR2 : lw_R cy qx ux qm um (lw_W cy qx ux qm um torn now t2 wg0 wg1 wg2 wg3 seen k0 k1 iw0 iw1 is0 is1 (sf 0) (sf 1) (sf 2) (sf 3) tp rd row best (nI pe) dp mb mr mh (nI tn) po be so va rd.2.2 wr q.1 q.2.1 bc bm l1 l2 l3 torn (nf_a S) q.2.2.1 kp (nf_a Dr) tape row2 best2 q.2.2.2 byk lan siz cel bef) := lw_mk (sf := sf) rfl rfl h1 hi0 hi1 hs4 htp
  exact lx_T C0 kk _ _ _ _ hR2 hP hD hS (lv_sub hl [0, 1, 2, 3] rfl)
