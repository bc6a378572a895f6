set_option maxHeartbeats 8000000 in
set_option maxRecDepth 100000 in
theorem lp_38 {p : Program} {l : Launch} {e : Env} {s : State} {m : MethodId} {below : List Frame} {meth : Method} {c : Code} {b L : Nat} {xs : Nat → Int32} {D : va_G} {cy : Nat → ClassId} {X : (Nat → Nat) × (Nat → Nat)} {qx qm : Nat} {ux um : Nat → Nat} {i : Nat} (C0 : lx_C p s m meth c b L xs D cy X) (hi5 : i + 5 ≤ L) (kk : lx_G p l e s m below meth c b D cy qx ux qm um (nI i + 5) 18) : lx_G p l e s m below meth c b D cy qx ux qm um (nI i) 1330 := by
  intro ws H locs ls hR hP hD hS hl
  obtain ⟨⟨hx, hb, hr0, hml, hown, hts, hX, hbl, hlocks, hgv⟩, hL, hK, hE⟩ := id C0
  have htw := lx_h hts
  have hA : ∀ q : Nat, s.heap.size ≤ q → (fun q : Nat => s.heap.size ≤ q) q := fun _ h => h
  have hbA : ¬ (fun q : Nat => s.heap.size ≤ q) b := Nat.not_le.mpr hbl
  obtain ⟨pe, tn, S, N, Dr, torn, now, trial, wg0, wg1, wg2, wg3, seen, k0, k1, iw0, iw1, is0, is1, sf, tp, rd, row, best, dp, mb, mr, mh, po, be, so, va, wr, he, sp, bc, bm, l1, l2, l3, kp, tape, row2, best2, heavy, byk, lan, siz, cel, bef, rfl, h1, hi0, hi1, hs4, htp⟩ := hR
  obtain ⟨z1, ez1⟩ : ∃ z, z = xs (nI i + nI 1).toNatClampNeg := ⟨_, rfl⟩
  obtain ⟨r, e1, e2⟩ := op_count (f := 5000) h1 hi0 hi1 hs4 htp (by decide) z1
  refine lv_aload_n hx hb dL_law_1330 rfl (lv_at hl 2 rfl) ?_
  refine lv_aload_n hx hb dL_law_1331 rfl (lv_at hl 1 rfl) ?_
  refine lv_iload_n hx hb dL_law_1332 rfl (lv_at hl 0 rfl) ?_
  refine lv_iconst (v := nI 1) hx hb dL_law_1333 (by decide) ?_
  refine lv_iadd hx hb dL_law_1334 ?_
  refine va_sld hx hb hX hbl hbA hS (lx_v (k := 1) hi5 (by omega) hL) dL_law_1335 ?_
  rw [← ez1]
  have hC : ([0, 1, 2, 3, 4, 5, 17, 63, 64, 18, 19, 16, 43, 53, 12, 13, 14, 15] : List Nat).map (fun i => (lw_W cy qx ux qm um torn now trial wg0 wg1 wg2 wg3 seen k0 k1 iw0 iw1 is0 is1 (sf 0) (sf 1) (sf 2) (sf 3) tp rd row best (nI pe) dp mb mr mh (nI tn) po be so va rd.2.2 wr he sp bc bm l1 l2 l3 torn (nf_a S) (nf_a N) kp (nf_a Dr) tape row2 best2 heavy byk lan siz cel bef)[i]?) = (wc_X6_count cy qx (ux 0) (ux 1) (ux 2) (ux 3) (ux 4) (ux 16) (ux 62) (ux 63) (ux 17) (ux 18) (ux 15) (ux 42) (ux 52) (ux 11) (ux 12) (ux 13) (ux 14) (ux 5) (ux 10) (ux 19) (ux 20) (ux 21) (ux 64) (ux 66) (ux 68) (ux 43) (ux 48) (ux 53) (ux 58) torn now (sf 0) tp k0 k1 seen).map some := rfl
  refine cm_i (fun (u : Unit) => lw_W cy qx ux qm um torn now trial wg0 wg1 wg2 wg3 seen k0 k1 iw0 iw1 is0 is1 (sf 0) (sf 1) (sf 2) (sf 3) tp rd row best (nI pe) dp mb mr mh (nI tn) po be so va rd.2.2 wr he sp bc bm l1 l2 l3 torn (nf_a S) (nf_a N) kp (nf_a Dr) tape row2 best2 heavy byk lan siz cel bef) hP hD hS hA [0, 1, 2, 3, 4, 5, 17, 63, 64, 18, 19, 16, 43, 53, 12, 13, 14, 15] hC (by decide +kernel) (fun hPc hDc hF => va_runV (As := [.int z1]) (rest := []) (C := RX6) ⟨hx, hb, hml, hown, hts⟩ (c_X6_count l D cy H.size qx (ux 0) (ux 1) (ux 2) (ux 3) (ux 4) (ux 16) (ux 62) (ux 63) (ux 17) (ux 18) (ux 15) (ux 42) (ux 52) (ux 11) (ux 12) (ux 13) (ux 14) (ux 5) (ux 10) (ux 19) (ux 20) (ux 21) (ux 64) (ux 66) (ux 68) (ux 43) (ux 48) (ux 53) (ux 58) torn now (sf 0) tp k0 k1 seen z1 (f := 5000) e1) ⟨callB_of 1 hts (wg_law k_687) rfl rfl rfl (htw _ k_1) (htw _ k_684) (by decide +kernel) ⟨by decide, by decide⟩, (htw _ k_685), (htw _ k_686)⟩ ⟨st_blind, va_recv hK.1 hPc (ci := 6) (q0 := 0) rfl rfl, fun U hU hW => st_pre hK hPc hDc hU hW⟩ rfl rfl hl.1 rfl (lv_room (Nat.le_of_ble_eq_true rfl)) dL_law_1336 ⟨by decide, by decide⟩) (fun _ => rfl) (fun _ => rfl) (fun r0 u H locs hw hP hD hS => ?_)
  obtain rfl := hw.symm
  refine W.eq (g2 := F0 m 1339 ls [.int r]) rfl ?_
  refine lv_aload_n hx hb dL_law_1339 rfl (lv_at hl 3 rfl) ?_
  refine lv_aload_n hx hb dL_law_1340 rfl (lv_at hl 1 rfl) ?_
  refine lv_iload_n hx hb dL_law_1341 rfl (lv_at hl 0 rfl) ?_
  refine lv_iconst (v := nI 1) hx hb dL_law_1342 (by decide) ?_
  refine lv_iadd hx hb dL_law_1343 ?_
  refine va_sld hx hb hX hbl hbA hS (lx_v (k := 1) hi5 (by omega) hL) dL_law_1344 ?_
  rw [← ez1]
  have hC : ([71, 72, 81, 82, 74] : List Nat).map (fun i => (lw_W cy qx ux qm um torn now trial wg0 wg1 wg2 wg3 seen k0 k1 iw0 iw1 is0 is1 (sf 0) (sf 1) (sf 2) (sf 3) tp rd row best (nI pe) dp mb mr mh (nI tn) po be so va rd.2.2 wr he sp bc bm l1 l2 l3 torn (nf_a S) (nf_a N) kp (nf_a Dr) tape row2 best2 heavy byk lan siz cel bef)[i]?) = (wc_X7_count cy qm (um 0) (um 9) (um 10) (um 2) (um 1) (um 3) (um 4) (um 5) (um 6) (um 7) (um 8) (um 11) (um 12) (nI pe) dp mb mr mh (nI tn) po be so va rd.2.2 wr he sp bc bm l1 l2 l3 torn (nf_a S) lan siz kp).map some := rfl
  refine cm_i (fun (u : Unit) => lw_W cy qx ux qm um torn now trial wg0 wg1 wg2 wg3 seen k0 k1 iw0 iw1 is0 is1 (sf 0) (sf 1) (sf 2) (sf 3) tp rd row best (nI pe) dp mb mr mh (nI tn) po be so va rd.2.2 wr he sp bc bm l1 l2 l3 torn (nf_a S) (nf_a N) kp (nf_a Dr) tape row2 best2 heavy byk lan siz cel bef) hP hD hS hA [71, 72, 81, 82, 74] hC (by decide +kernel) (fun hPc hDc hF => va_runV (As := [.int z1]) (rest := [.int r]) (C := RX7) ⟨hx, hb, hml, hown, hts⟩ (c_X7_count l D cy H.size qm (um 0) (um 9) (um 10) (um 2) (um 1) (um 3) (um 4) (um 5) (um 6) (um 7) (um 8) (um 11) (um 12) (nI pe) dp mb mr mh (nI tn) po be so va rd.2.2 wr he sp bc bm l1 l2 l3 torn (nf_a S) lan siz kp z1 (f := 5000) e2) ⟨callB_of 1 hts (wg_law k_1146) rfl rfl rfl (htw _ k_8) (htw _ k_1143) (by decide +kernel) ⟨by decide, by decide⟩, (htw _ k_1144), (htw _ k_1145)⟩ ⟨st_blind, va_recv hK.1 hPc (ci := 7) (q0 := 0) rfl rfl, fun U hU hW => st_pre hK hPc hDc hU hW⟩ rfl rfl hl.1 rfl (lv_room (Nat.le_of_ble_eq_true rfl)) dL_law_1345 ⟨by decide, by decide⟩) (fun _ => rfl) (fun _ => rfl) (fun r0 u H locs hw hP hD hS => ?_)
  obtain rfl := hw.symm
  refine W.eq (g2 := F0 m 1348 ls [.int r, .int r]) rfl ?_
  refine lv_icmp_eq (tgt := 1353) hx hb dL_law_1348 (by decide) (fun _ => ?_) (fun cc => absurd rfl cc)
  have hR2 : lw_R cy qx ux qm um (lw_W cy qx ux qm um torn now trial wg0 wg1 wg2 wg3 seen k0 k1 iw0 iw1 is0 is1 (sf 0) (sf 1) (sf 2) (sf 3) tp rd row best (nI pe) dp mb mr mh (nI tn) po be so va rd.2.2 wr he sp bc bm l1 l2 l3 torn (nf_a S) (nf_a N) kp (nf_a Dr) tape row2 best2 heavy byk lan siz cel bef) := lw_mk (sf := sf) rfl rfl h1 hi0 hi1 hs4 htp
  exact lx_T C0 kk _ _ _ _ hR2 hP hD hS (lv_sub hl [0, 1, 2, 3] rfl)
