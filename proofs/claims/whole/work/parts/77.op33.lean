set_option maxHeartbeats 8000000 in
set_option maxRecDepth 100000 in
theorem lp_33 {p : Program} {l : Launch} {e : Env} {s : State} {m : MethodId} {below : List Frame} {meth : Method} {c : Code} {b L : Nat} {xs : Nat → Int32} {D : va_G} {cy : Nat → ClassId} {X : (Nat → Nat) × (Nat → Nat)} {qx qm : Nat} {ux um : Nat → Nat} {i : Nat} (C0 : lx_C p s m meth c b L xs D cy X) (hi5 : i + 5 ≤ L) (kk : lx_G p l e s m below meth c b D cy qx ux qm um (nI i + 5) 18) : lx_G p l e s m below meth c b D cy qx ux qm um (nI i) 1155 := by
  intro ws H locs ls hR hP hD hS hl
  obtain ⟨⟨hx, hb, hr0, hml, hown, hts, hX, hbl, hlocks, hgv⟩, hL, hK, hE⟩ := id C0
  have htw := lx_h hts
  have hA : ∀ q : Nat, s.heap.size ≤ q → (fun q : Nat => s.heap.size ≤ q) q := fun _ h => h
  have hbA : ¬ (fun q : Nat => s.heap.size ≤ q) b := Nat.not_le.mpr hbl
  obtain ⟨pe, tn, S, N, Dr, torn, now, trial, wg0, wg1, wg2, wg3, seen, k0, k1, iw0, iw1, is0, is1, sf, tp, rd, row, best, dp, mb, mr, mh, po, be, so, va, wr, he, sp, bc, bm, l1, l2, l3, kp, tape, row2, best2, heavy, byk, lan, siz, cel, bef, rfl, h1, hi0, hi1, hs4, htp⟩ := hR
  obtain ⟨z1, ez1⟩ : ∃ z, z = xs (nI i + nI 1).toNatClampNeg := ⟨_, rfl⟩
  obtain ⟨r, w', v', S2, e1, e2, g1, o46⟩ := op_back (f := 5000) h1 hi0 hi1 (by decide) z1
  refine lv_aload_n hx hb dL_law_1155 rfl (lv_at hl 2 rfl) ?_
  refine lv_aload_n hx hb dL_law_1156 rfl (lv_at hl 1 rfl) ?_
  refine lv_iload_n hx hb dL_law_1157 rfl (lv_at hl 0 rfl) ?_
  refine lv_iconst (v := nI 1) hx hb dL_law_1158 (by decide) ?_
  refine lv_iadd hx hb dL_law_1159 ?_
  refine va_sld hx hb hX hbl hbA hS (lx_v (k := 1) hi5 (by omega) hL) dL_law_1160 ?_
  rw [← ez1]
  have hC : ([0, 16, 53, 43, 1, 2, 3, 4, 5, 44, 45, 46, 47, 48, 12, 13, 14, 15, 49, 50, 51, 52, 54, 55, 56, 57, 58, 59, 60, 61, 62] : List Nat).map (fun i => (lw_W cy qx ux qm um torn now trial wg0 wg1 wg2 wg3 seen k0 k1 iw0 iw1 is0 is1 (sf 0) (sf 1) (sf 2) (sf 3) tp rd row best (nI pe) dp mb mr mh (nI tn) po be so va rd.2.2 wr he sp bc bm l1 l2 l3 torn (nf_a S) (nf_a N) kp (nf_a Dr) tape row2 best2 heavy byk lan siz cel bef)[i]?) = (wc_X6_back cy qx (ux 15) (ux 52) (ux 42) (ux 0) (ux 1) (ux 2) (ux 3) (ux 4) (ux 43) (ux 44) (ux 45) (ux 46) (ux 47) (ux 11) (ux 12) (ux 13) (ux 14) (ux 48) (ux 49) (ux 50) (ux 51) (ux 53) (ux 54) (ux 55) (ux 56) (ux 57) (ux 58) (ux 59) (ux 60) (ux 61) (ux 5) (ux 10) (ux 16) (ux 17) (ux 19) (ux 20) (ux 21) torn k1 k0 now iw0 seen is0 iw1 is1).map some := rfl
  refine cm_i (fun (u : s_W × s_V) => lw_W cy qx ux qm um torn u.1 trial wg0 wg1 wg2 wg3 u.2 k0 k1 iw0 iw1 is0 is1 (sf 0) (sf 1) (sf 2) (sf 3) tp rd row best (nI pe) dp mb mr mh (nI tn) po be so va rd.2.2 wr he sp bc bm l1 l2 l3 torn (nf_a S) (nf_a N) kp (nf_a Dr) tape row2 best2 heavy byk lan siz cel bef) hP hD hS hA [0, 16, 53, 43, 1, 2, 3, 4, 5, 44, 45, 46, 47, 48, 12, 13, 14, 15, 49, 50, 51, 52, 54, 55, 56, 57, 58, 59, 60, 61, 62] hC (by decide +kernel) (fun hPc hDc hF => va_runV (As := [.int z1]) (rest := []) (C := RX6) ⟨hx, hb, hml, hown, hts⟩ (c_X6_back l D cy H.size qx (ux 15) (ux 52) (ux 42) (ux 0) (ux 1) (ux 2) (ux 3) (ux 4) (ux 43) (ux 44) (ux 45) (ux 46) (ux 47) (ux 11) (ux 12) (ux 13) (ux 14) (ux 48) (ux 49) (ux 50) (ux 51) (ux 53) (ux 54) (ux 55) (ux 56) (ux 57) (ux 58) (ux 59) (ux 60) (ux 61) (ux 5) (ux 10) (ux 16) (ux 17) (ux 19) (ux 20) (ux 21) torn k1 k0 now iw0 seen is0 iw1 is1 z1 e1) ⟨callB_of 1 hts (wg_law k_647) rfl rfl rfl (htw _ k_1) (htw _ k_644) (by decide +kernel) ⟨by decide, by decide⟩, (htw _ k_645), (htw _ k_646)⟩ ⟨st_blind, va_recv hK.1 hPc (ci := 6) (q0 := 0) rfl rfl, fun U hU hW => st_pre hK hPc hDc hU hW⟩ rfl rfl hl.1 rfl (lv_room (Nat.le_of_ble_eq_true rfl)) dL_law_1161 ⟨by decide, by decide⟩) (fun _ => rfl) (fun _ => rfl) (fun r0 u H locs hw hP hD hS => ?_)
  obtain ⟨hw1, hw2⟩ := hw
  obtain rfl := hw1.symm
  obtain rfl := hw2.symm
  have hP : va_P D vwCl (lw_W cy qx ux qm um torn w' trial wg0 wg1 wg2 wg3 v' k0 k1 iw0 iw1 is0 is1 (sf 0) (sf 1) (sf 2) (sf 3) tp rd row best (nI pe) dp mb mr mh (nI tn) po be so va rd.2.2 wr he sp bc bm l1 l2 l3 torn (nf_a S) (nf_a N) kp (nf_a Dr) tape row2 best2 heavy byk lan siz cel bef) H := hP
  have hD : va_D (fun q : Nat => s.heap.size ≤ q) (lw_W cy qx ux qm um torn w' trial wg0 wg1 wg2 wg3 v' k0 k1 iw0 iw1 is0 is1 (sf 0) (sf 1) (sf 2) (sf 3) tp rd row best (nI pe) dp mb mr mh (nI tn) po be so va rd.2.2 wr he sp bc bm l1 l2 l3 torn (nf_a S) (nf_a N) kp (nf_a Dr) tape row2 best2 heavy byk lan siz cel bef) := hD
  refine W.eq (g2 := F0 m 1164 ls [.int r]) rfl ?_
  refine lv_aload_n hx hb dL_law_1164 rfl (lv_at hl 3 rfl) ?_
  refine lv_aload_n hx hb dL_law_1165 rfl (lv_at hl 1 rfl) ?_
  refine lv_iload_n hx hb dL_law_1166 rfl (lv_at hl 0 rfl) ?_
  refine lv_iconst (v := nI 1) hx hb dL_law_1167 (by decide) ?_
  refine lv_iadd hx hb dL_law_1168 ?_
  refine va_sld hx hb hX hbl hbA hS (lx_v (k := 1) hi5 (by omega) hL) dL_law_1169 ?_
  rw [← ez1]
  have hC : ([71, 74, 72] : List Nat).map (fun i => (lw_W cy qx ux qm um torn w' trial wg0 wg1 wg2 wg3 v' k0 k1 iw0 iw1 is0 is1 (sf 0) (sf 1) (sf 2) (sf 3) tp rd row best (nI pe) dp mb mr mh (nI tn) po be so va rd.2.2 wr he sp bc bm l1 l2 l3 torn (nf_a S) (nf_a N) kp (nf_a Dr) tape row2 best2 heavy byk lan siz cel bef)[i]?) = (wc_X7_back cy qm (um 2) (um 0) (um 1) (um 3) (um 4) (um 5) (um 6) (um 7) (um 8) (um 9) (um 10) (um 11) (um 12) (nI pe) dp mb mr mh (nI tn) po be so va rd.2.2 wr he sp bc bm l1 l2 l3 torn kp (nf_a S)).map some := rfl
  refine cm_i (fun (u : (Nat → Int32)) => lw_W cy qx ux qm um torn w' trial wg0 wg1 wg2 wg3 v' k0 k1 iw0 iw1 is0 is1 (sf 0) (sf 1) (sf 2) (sf 3) tp rd row best (nI pe) dp mb mr mh (nI tn) po be so va rd.2.2 wr he sp bc bm l1 l2 l3 torn u (nf_a N) kp (nf_a Dr) tape row2 best2 heavy byk lan siz cel bef) hP hD hS hA [71, 74, 72] hC (by decide +kernel) (fun hPc hDc hF => va_runV (As := [.int z1]) (rest := [.int r]) (C := RX7) ⟨hx, hb, hml, hown, hts⟩ (c_X7_back l D cy H.size qm (um 2) (um 0) (um 1) (um 3) (um 4) (um 5) (um 6) (um 7) (um 8) (um 9) (um 10) (um 11) (um 12) (nI pe) dp mb mr mh (nI tn) po be so va rd.2.2 wr he sp bc bm l1 l2 l3 torn kp (nf_a S) z1 (f := 5000) e2) ⟨callB_of 1 hts (wg_law k_1120) rfl rfl rfl (htw _ k_8) (htw _ k_1117) (by decide +kernel) ⟨by decide, by decide⟩, (htw _ k_1118), (htw _ k_1119)⟩ ⟨st_blind, va_recv hK.1 hPc (ci := 7) (q0 := 0) rfl rfl, fun U hU hW => st_pre hK hPc hDc hU hW⟩ rfl rfl hl.1 rfl (lv_room (Nat.le_of_ble_eq_true rfl)) dL_law_1170 ⟨by decide, by decide⟩) (fun _ => rfl) (fun _ => rfl) (fun r0 u H locs hw hP hD hS => ?_)
  obtain ⟨hw1, hw2⟩ := hw
  obtain rfl := hw1.symm
  obtain rfl := hw2.symm
  have hP : va_P D vwCl (lw_W cy qx ux qm um torn w' trial wg0 wg1 wg2 wg3 v' k0 k1 iw0 iw1 is0 is1 (sf 0) (sf 1) (sf 2) (sf 3) tp rd row best (nI pe) dp mb mr mh (nI tn) po be so va rd.2.2 wr he sp bc bm l1 l2 l3 torn (nf_a S2) (nf_a N) kp (nf_a Dr) tape row2 best2 heavy byk lan siz cel bef) H := hP
  have hD : va_D (fun q : Nat => s.heap.size ≤ q) (lw_W cy qx ux qm um torn w' trial wg0 wg1 wg2 wg3 v' k0 k1 iw0 iw1 is0 is1 (sf 0) (sf 1) (sf 2) (sf 3) tp rd row best (nI pe) dp mb mr mh (nI tn) po be so va rd.2.2 wr he sp bc bm l1 l2 l3 torn (nf_a S2) (nf_a N) kp (nf_a Dr) tape row2 best2 heavy byk lan siz cel bef) := hD
  refine W.eq (g2 := F0 m 1173 ls [.int r, .int r]) rfl ?_
  refine lv_icmp_eq (tgt := 1353) hx hb dL_law_1173 (by decide) (fun _ => ?_) (fun cc => absurd rfl cc)
  have hR2 : lw_R cy qx ux qm um (lw_W cy qx ux qm um torn w' trial wg0 wg1 wg2 wg3 v' k0 k1 iw0 iw1 is0 is1 (sf 0) (sf 1) (sf 2) (sf 3) tp rd row best (nI pe) dp mb mr mh (nI tn) po be so va rd.2.2 wr he sp bc bm l1 l2 l3 torn (nf_a S2) (nf_a N) kp (nf_a Dr) tape row2 best2 heavy byk lan siz cel bef) := lw_mk (sf := sf) rfl rfl g1 (im_cg (fun i _ _ => o46 i (by omega)) hi0) (im_cg (fun i _ _ => o46 i (by omega)) hi1) hs4 htp
  exact lx_T C0 kk _ _ _ _ hR2 hP hD hS (lv_sub hl [0, 1, 2, 3] rfl)
