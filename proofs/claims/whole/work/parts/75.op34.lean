set_option maxHeartbeats 8000000 in
set_option maxRecDepth 100000 in
theorem lp_34 {p : Program} {l : Launch} {e : Env} {s : State} {m : MethodId} {below : List Frame} {meth : Method} {c : Code} {b L : Nat} {xs : Nat → Int32} {D : va_G} {cy : Nat → ClassId} {X : (Nat → Nat) × (Nat → Nat)} {qx qm : Nat} {ux um : Nat → Nat} {i : Nat} (C0 : lx_C p s m meth c b L xs D cy X) (hi5 : i + 5 ≤ L) (kk : lx_G p l e s m below meth c b D cy qx ux qm um (nI i + 5) 18) : lx_G p l e s m below meth c b D cy qx ux qm um (nI i) 1178 := by
  intro ws H locs ls hR hP hD hS hl
  obtain ⟨⟨hx, hb, hr0, hml, hown, hts, hX, hbl, hlocks, hgv⟩, hL, hK, hE⟩ := id C0
  have htw := lx_h hts
  have hA : ∀ q : Nat, s.heap.size ≤ q → (fun q : Nat => s.heap.size ≤ q) q := fun _ h => h
  have hbA : ¬ (fun q : Nat => s.heap.size ≤ q) b := Nat.not_le.mpr hbl
  obtain ⟨pe, tn, S, N, Dr, torn, now, trial, wg0, wg1, wg2, wg3, seen, k0, k1, iw0, iw1, is0, is1, sf, tp, rd, row, best, dp, mb, mr, mh, po, be, so, va, wr, he, sp, bc, bm, l1, l2, l3, kp, tape, row2, best2, heavy, byk, lan, siz, cel, bef, rfl, h1, hi0, hi1, hs4, htp⟩ := hR
  obtain ⟨z1, ez1⟩ : ∃ z, z = xs (nI i + nI 1).toNatClampNeg := ⟨_, rfl⟩
  obtain ⟨z2, ez2⟩ : ∃ z, z = xs (nI i + nI 2).toNatClampNeg := ⟨_, rfl⟩
  obtain ⟨z3, ez3⟩ : ∃ z, z = xs (nI i + nI 3).toNatClampNeg := ⟨_, rfl⟩
  obtain ⟨r, sf2, L2, Z2, C2, e1, e2, g1⟩ := op_sheet (f := 5000) hs4 (by decide) z1 z2 z3
  refine lv_aload_n hx hb dL_law_1178 rfl (lv_at hl 2 rfl) ?_
  refine lv_aload_n hx hb dL_law_1179 rfl (lv_at hl 1 rfl) ?_
  refine lv_iload_n hx hb dL_law_1180 rfl (lv_at hl 0 rfl) ?_
  refine lv_iconst (v := nI 1) hx hb dL_law_1181 (by decide) ?_
  refine lv_iadd hx hb dL_law_1182 ?_
  refine va_sld hx hb hX hbl hbA hS (lx_v (k := 1) hi5 (by omega) hL) dL_law_1183 ?_
  rw [← ez1]
  refine lv_aload_n hx hb dL_law_1184 rfl (lv_at hl 1 rfl) ?_
  refine lv_iload_n hx hb dL_law_1185 rfl (lv_at hl 0 rfl) ?_
  refine lv_iconst (v := nI 2) hx hb dL_law_1186 (by decide) ?_
  refine lv_iadd hx hb dL_law_1187 ?_
  refine va_sld hx hb hX hbl hbA hS (lx_v (k := 2) hi5 (by omega) hL) dL_law_1188 ?_
  rw [← ez2]
  refine lv_aload_n hx hb dL_law_1189 rfl (lv_at hl 1 rfl) ?_
  refine lv_iload_n hx hb dL_law_1190 rfl (lv_at hl 0 rfl) ?_
  refine lv_iconst (v := nI 3) hx hb dL_law_1191 (by decide) ?_
  refine lv_iadd hx hb dL_law_1192 ?_
  refine va_sld hx hb hX hbl hbA hS (lx_v (k := 3) hi5 (by omega) hL) dL_law_1193 ?_
  rw [← ez3]
  have hC : ([0, 17, 69, 70, 67, 68, 65, 66, 63, 64] : List Nat).map (fun i => (lw_W cy qx ux qm um torn now trial wg0 wg1 wg2 wg3 seen k0 k1 iw0 iw1 is0 is1 (sf 0) (sf 1) (sf 2) (sf 3) tp rd row best (nI pe) dp mb mr mh (nI tn) po be so va rd.2.2 wr he sp bc bm l1 l2 l3 torn (nf_a S) (nf_a N) kp (nf_a Dr) tape row2 best2 heavy byk lan siz cel bef)[i]?) = (wc_X6_sheet cy qx (ux 16) (ux 68) (ux 69) (ux 66) (ux 67) (ux 64) (ux 65) (ux 62) (ux 63) (ux 0) (ux 5) (ux 10) (ux 11) (ux 15) (ux 17) (ux 19) (ux 20) (ux 21) torn (sf 3) (sf 2) (sf 1) (sf 0)).map some := rfl
  refine cu_i (fun (u : s_S × s_S × s_S × s_S) => lw_W cy qx ux qm um torn now trial wg0 wg1 wg2 wg3 seen k0 k1 iw0 iw1 is0 is1 u.2.2.2 u.2.2.1 u.2.1 u.1 tp rd row best (nI pe) dp mb mr mh (nI tn) po be so va rd.2.2 wr he sp bc bm l1 l2 l3 torn (nf_a S) (nf_a N) kp (nf_a Dr) tape row2 best2 heavy byk lan siz cel bef) hP hD hS hA [0, 17, 69, 70, 67, 68, 65, 66, 63, 64] hC (by decide +kernel) (fun hPc hDc hF => va_runV (As := [.int z1, .int z2, .int z3]) (rest := []) (C := RX6) ⟨hx, hb, hml, hown, hts⟩ (c_X6_sheet l D cy H.size qx (ux 16) (ux 68) (ux 69) (ux 66) (ux 67) (ux 64) (ux 65) (ux 62) (ux 63) (ux 0) (ux 5) (ux 10) (ux 11) (ux 15) (ux 17) (ux 19) (ux 20) (ux 21) torn (sf 3) (sf 2) (sf 1) (sf 0) z1 z2 z3 (f := 5000) e1) ⟨callB_of 3 hts (wg_law k_651) rfl rfl rfl (htw _ k_1) (htw _ k_648) (by decide +kernel) ⟨by decide, by decide⟩, (htw _ k_649), (htw _ k_650)⟩ ⟨st_blind, va_recv hK.1 hPc (ci := 6) (q0 := 0) rfl rfl, fun U hU hW => st_pre hK hPc hDc hU hW⟩ rfl rfl hl.1 rfl (lv_room (Nat.le_of_ble_eq_true rfl)) dL_law_1194 ⟨by decide, by decide⟩) (fun _ => rfl) (fun _ => rfl) (fun r0 u H locs hw hP hD hS => ?_)
  obtain ⟨hw1, hw2⟩ := hw
  obtain rfl := hw1.symm
  obtain rfl := hw2.symm
  have hP : va_P D vwCl (lw_W cy qx ux qm um torn now trial wg0 wg1 wg2 wg3 seen k0 k1 iw0 iw1 is0 is1 (sf2 0) (sf2 1) (sf2 2) (sf2 3) tp rd row best (nI pe) dp mb mr mh (nI tn) po be so va rd.2.2 wr he sp bc bm l1 l2 l3 torn (nf_a S) (nf_a N) kp (nf_a Dr) tape row2 best2 heavy byk lan siz cel bef) H := hP
  have hD : va_D (fun q : Nat => s.heap.size ≤ q) (lw_W cy qx ux qm um torn now trial wg0 wg1 wg2 wg3 seen k0 k1 iw0 iw1 is0 is1 (sf2 0) (sf2 1) (sf2 2) (sf2 3) tp rd row best (nI pe) dp mb mr mh (nI tn) po be so va rd.2.2 wr he sp bc bm l1 l2 l3 torn (nf_a S) (nf_a N) kp (nf_a Dr) tape row2 best2 heavy byk lan siz cel bef) := hD
  refine W.eq (g2 := F0 m 1197 ls [.int r]) rfl ?_
  refine lv_aload_n hx hb dL_law_1197 rfl (lv_at hl 3 rfl) ?_
  refine lv_aload_n hx hb dL_law_1198 rfl (lv_at hl 1 rfl) ?_
  refine lv_iload_n hx hb dL_law_1199 rfl (lv_at hl 0 rfl) ?_
  refine lv_iconst (v := nI 1) hx hb dL_law_1200 (by decide) ?_
  refine lv_iadd hx hb dL_law_1201 ?_
  refine va_sld hx hb hX hbl hbA hS (lx_v (k := 1) hi5 (by omega) hL) dL_law_1202 ?_
  rw [← ez1]
  refine lv_aload_n hx hb dL_law_1203 rfl (lv_at hl 1 rfl) ?_
  refine lv_iload_n hx hb dL_law_1204 rfl (lv_at hl 0 rfl) ?_
  refine lv_iconst (v := nI 2) hx hb dL_law_1205 (by decide) ?_
  refine lv_iadd hx hb dL_law_1206 ?_
  refine va_sld hx hb hX hbl hbA hS (lx_v (k := 2) hi5 (by omega) hL) dL_law_1207 ?_
  rw [← ez2]
  refine lv_aload_n hx hb dL_law_1208 rfl (lv_at hl 1 rfl) ?_
  refine lv_iload_n hx hb dL_law_1209 rfl (lv_at hl 0 rfl) ?_
  refine lv_iconst (v := nI 3) hx hb dL_law_1210 (by decide) ?_
  refine lv_iadd hx hb dL_law_1211 ?_
  refine va_sld hx hb hX hbl hbA hS (lx_v (k := 3) hi5 (by omega) hL) dL_law_1212 ?_
  rw [← ez3]
  have hC : ([71, 81, 82, 83] : List Nat).map (fun i => (lw_W cy qx ux qm um torn now trial wg0 wg1 wg2 wg3 seen k0 k1 iw0 iw1 is0 is1 (sf2 0) (sf2 1) (sf2 2) (sf2 3) tp rd row best (nI pe) dp mb mr mh (nI tn) po be so va rd.2.2 wr he sp bc bm l1 l2 l3 torn (nf_a S) (nf_a N) kp (nf_a Dr) tape row2 best2 heavy byk lan siz cel bef)[i]?) = (wc_X7_sheet cy qm (um 9) (um 10) (um 11) (um 0) (um 1) (um 2) (um 3) (um 4) (um 5) (um 6) (um 7) (um 8) (um 12) (nI pe) dp mb mr mh (nI tn) po be so va rd.2.2 wr he sp bc bm l1 l2 l3 torn lan siz cel).map some := rfl
  refine cu_i (fun (u : (Nat → Int32) × (Nat → Int32) × (Nat → Int32)) => lw_W cy qx ux qm um torn now trial wg0 wg1 wg2 wg3 seen k0 k1 iw0 iw1 is0 is1 (sf2 0) (sf2 1) (sf2 2) (sf2 3) tp rd row best (nI pe) dp mb mr mh (nI tn) po be so va rd.2.2 wr he sp bc bm l1 l2 l3 torn (nf_a S) (nf_a N) kp (nf_a Dr) tape row2 best2 heavy byk u.1 u.2.1 u.2.2 bef) hP hD hS hA [71, 81, 82, 83] hC (by decide +kernel) (fun hPc hDc hF => va_runV (As := [.int z1, .int z2, .int z3]) (rest := [.int r]) (C := RX7) ⟨hx, hb, hml, hown, hts⟩ (c_X7_sheet l D cy H.size qm (um 9) (um 10) (um 11) (um 0) (um 1) (um 2) (um 3) (um 4) (um 5) (um 6) (um 7) (um 8) (um 12) (nI pe) dp mb mr mh (nI tn) po be so va rd.2.2 wr he sp bc bm l1 l2 l3 torn lan siz cel z1 z2 z3 (f := 5000) e2) ⟨callB_of 3 hts (wg_law k_1124) rfl rfl rfl (htw _ k_8) (htw _ k_1121) (by decide +kernel) ⟨by decide, by decide⟩, (htw _ k_1122), (htw _ k_1123)⟩ ⟨st_blind, va_recv hK.1 hPc (ci := 7) (q0 := 0) rfl rfl, fun U hU hW => st_pre hK hPc hDc hU hW⟩ rfl rfl hl.1 rfl (lv_room (Nat.le_of_ble_eq_true rfl)) dL_law_1213 ⟨by decide, by decide⟩) (fun _ => rfl) (fun _ => rfl) (fun r0 u H locs hw hP hD hS => ?_)
  obtain ⟨hw1, hw2⟩ := hw
  obtain rfl := hw1.symm
  obtain rfl := hw2.symm
  have hP : va_P D vwCl (lw_W cy qx ux qm um torn now trial wg0 wg1 wg2 wg3 seen k0 k1 iw0 iw1 is0 is1 (sf2 0) (sf2 1) (sf2 2) (sf2 3) tp rd row best (nI pe) dp mb mr mh (nI tn) po be so va rd.2.2 wr he sp bc bm l1 l2 l3 torn (nf_a S) (nf_a N) kp (nf_a Dr) tape row2 best2 heavy byk L2 Z2 C2 bef) H := hP
  have hD : va_D (fun q : Nat => s.heap.size ≤ q) (lw_W cy qx ux qm um torn now trial wg0 wg1 wg2 wg3 seen k0 k1 iw0 iw1 is0 is1 (sf2 0) (sf2 1) (sf2 2) (sf2 3) tp rd row best (nI pe) dp mb mr mh (nI tn) po be so va rd.2.2 wr he sp bc bm l1 l2 l3 torn (nf_a S) (nf_a N) kp (nf_a Dr) tape row2 best2 heavy byk L2 Z2 C2 bef) := hD
  refine W.eq (g2 := F0 m 1216 ls [.int r, .int r]) rfl ?_
  refine lv_icmp_eq (tgt := 1353) hx hb dL_law_1216 (by decide) (fun _ => ?_) (fun cc => absurd rfl cc)
  have hR2 : lw_R cy qx ux qm um (lw_W cy qx ux qm um torn now trial wg0 wg1 wg2 wg3 seen k0 k1 iw0 iw1 is0 is1 (sf2 0) (sf2 1) (sf2 2) (sf2 3) tp rd row best (nI pe) dp mb mr mh (nI tn) po be so va rd.2.2 wr he sp bc bm l1 l2 l3 torn (nf_a S) (nf_a N) kp (nf_a Dr) tape row2 best2 heavy byk L2 Z2 C2 bef) := lw_mk (sf := sf2) rfl rfl h1 hi0 hi1 g1 htp
  exact lx_T C0 kk _ _ _ _ hR2 hP hD hS (lv_sub hl [0, 1, 2, 3] rfl)
