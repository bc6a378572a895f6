set_option maxHeartbeats 8000000 in
set_option maxRecDepth 100000 in
theorem lp_5 {p : Program} {l : Launch} {e : Env} {s : State} {m : MethodId} {below : List Frame} {meth : Method} {c : Code} {b L : Nat} {xs : Nat → Int32} {D : va_G} {cy : Nat → ClassId} {X : (Nat → Nat) × (Nat → Nat)} {qx qm : Nat} {ux um : Nat → Nat} {i : Nat} (C0 : lx_C p s m meth c b L xs D cy X) (hi5 : i + 5 ≤ L) (kk : lx_G p l e s m below meth c b D cy qx ux qm um (nI i + 5) 18) : lx_G p l e s m below meth c b D cy qx ux qm um (nI i) 299 := by
  intro ws H locs ls hR hP hD hS hl
  obtain ⟨⟨hx, hb, hr0, hml, hown, hts, hX, hbl, hlocks, hgv⟩, hL, hK, hE⟩ := id C0
  have htw := lx_h hts
  have hA : ∀ q : Nat, s.heap.size ≤ q → (fun q : Nat => s.heap.size ≤ q) q := fun _ h => h
  have hbA : ¬ (fun q : Nat => s.heap.size ≤ q) b := Nat.not_le.mpr hbl
  obtain ⟨pe, tn, S, N, Dr, torn, now, trial, wg0, wg1, wg2, wg3, seen, k0, k1, iw0, iw1, is0, is1, sf, tp, rd, row, best, dp, mb, mr, mh, po, be, so, va, wr, he, sp, bc, bm, l1, l2, l3, kp, tape, row2, best2, heavy, byk, lan, siz, cel, bef, rfl, h1, hi0, hi1, hs4, htp⟩ := hR
  obtain ⟨z1, ez1⟩ : ∃ z, z = xs (nI i + nI 1).toNatClampNeg := ⟨_, rfl⟩
  obtain ⟨z2, ez2⟩ : ∃ z, z = xs (nI i + nI 2).toNatClampNeg := ⟨_, rfl⟩
  obtain ⟨r, q, e1, e2⟩ := op_one (f := 5000) (N := N) (x := he) (y := sp) h1 (by decide) z1 z2
  refine lv_aload_n hx hb dL_law_299 rfl (lv_at hl 2 rfl) ?_
  refine lv_aload_n hx hb dL_law_300 rfl (lv_at hl 1 rfl) ?_
  refine lv_iload_n hx hb dL_law_301 rfl (lv_at hl 0 rfl) ?_
  refine lv_iconst (v := nI 1) hx hb dL_law_302 (by decide) ?_
  refine lv_iadd hx hb dL_law_303 ?_
  refine va_sld hx hb hX hbl hbA hS (lx_v (k := 1) hi5 (by omega) hL) dL_law_304 ?_
  rw [← ez1]
  refine lv_aload_n hx hb dL_law_305 rfl (lv_at hl 1 rfl) ?_
  refine lv_iload_n hx hb dL_law_306 rfl (lv_at hl 0 rfl) ?_
  refine lv_iconst (v := nI 2) hx hb dL_law_307 (by decide) ?_
  refine lv_iadd hx hb dL_law_308 ?_
  refine va_sld hx hb hX hbl hbA hS (lx_v (k := 2) hi5 (by omega) hL) dL_law_309 ?_
  rw [← ez2]
  have hC : ([0, 1, 2, 3, 4, 5] : List Nat).map (fun i => (lw_W cy qx ux qm um torn now trial wg0 wg1 wg2 wg3 seen k0 k1 iw0 iw1 is0 is1 (sf 0) (sf 1) (sf 2) (sf 3) tp rd row best (nI pe) dp mb mr mh (nI tn) po be so va rd.2.2 wr he sp bc bm l1 l2 l3 torn (nf_a S) (nf_a N) kp (nf_a Dr) tape row2 best2 heavy byk lan siz cel bef)[i]?) = (wc_X6_one cy qx (ux 0) (ux 1) (ux 2) (ux 3) (ux 4) (ux 5) (ux 10) (ux 11) (ux 15) (ux 16) (ux 17) (ux 19) (ux 20) (ux 21) torn now).map some := rfl
  refine cu_i (fun (u : Unit) => lw_W cy qx ux qm um torn now trial wg0 wg1 wg2 wg3 seen k0 k1 iw0 iw1 is0 is1 (sf 0) (sf 1) (sf 2) (sf 3) tp rd row best (nI pe) dp mb mr mh (nI tn) po be so va rd.2.2 wr he sp bc bm l1 l2 l3 torn (nf_a S) (nf_a N) kp (nf_a Dr) tape row2 best2 heavy byk lan siz cel bef) hP hD hS hA [0, 1, 2, 3, 4, 5] hC (by decide +kernel) (fun hPc hDc hF => va_runV (As := [.int z1, .int z2]) (rest := []) (C := RX6) ⟨hx, hb, hml, hown, hts⟩ (c_X6_one l D cy H.size qx (ux 0) (ux 1) (ux 2) (ux 3) (ux 4) (ux 5) (ux 10) (ux 11) (ux 15) (ux 16) (ux 17) (ux 19) (ux 20) (ux 21) torn now z1 z2 (f := 5000) e1) ⟨callB_of 2 hts (wg_law k_406) rfl rfl rfl (htw _ k_1) (htw _ k_403) (by decide +kernel) ⟨by decide, by decide⟩, (htw _ k_404), (htw _ k_405)⟩ ⟨st_blind, va_recv hK.1 hPc (ci := 6) (q0 := 0) rfl rfl, fun U hU hW => st_pre hK hPc hDc hU hW⟩ rfl rfl hl.1 rfl (lv_room (Nat.le_of_ble_eq_true rfl)) dL_law_310 ⟨by decide, by decide⟩) (fun _ => rfl) (fun _ => rfl) (fun r0 u H locs hw hP hD hS => ?_)
  obtain rfl := hw.symm
  refine W.eq (g2 := F0 m 313 ls [.int r]) rfl ?_
  refine lv_aload_n hx hb dL_law_313 rfl (lv_at hl 3 rfl) ?_
  refine lv_aload_n hx hb dL_law_314 rfl (lv_at hl 1 rfl) ?_
  refine lv_iload_n hx hb dL_law_315 rfl (lv_at hl 0 rfl) ?_
  refine lv_iconst (v := nI 1) hx hb dL_law_316 (by decide) ?_
  refine lv_iadd hx hb dL_law_317 ?_
  refine va_sld hx hb hX hbl hbA hS (lx_v (k := 1) hi5 (by omega) hL) dL_law_318 ?_
  rw [← ez1]
  refine lv_aload_n hx hb dL_law_319 rfl (lv_at hl 1 rfl) ?_
  refine lv_iload_n hx hb dL_law_320 rfl (lv_at hl 0 rfl) ?_
  refine lv_iconst (v := nI 2) hx hb dL_law_321 (by decide) ?_
  refine lv_iadd hx hb dL_law_322 ?_
  refine va_sld hx hb hX hbl hbA hS (lx_v (k := 2) hi5 (by omega) hL) dL_law_323 ?_
  rw [← ez2]
  have hC : ([71, 72, 73] : List Nat).map (fun i => (lw_W cy qx ux qm um torn now trial wg0 wg1 wg2 wg3 seen k0 k1 iw0 iw1 is0 is1 (sf 0) (sf 1) (sf 2) (sf 3) tp rd row best (nI pe) dp mb mr mh (nI tn) po be so va rd.2.2 wr he sp bc bm l1 l2 l3 torn (nf_a S) (nf_a N) kp (nf_a Dr) tape row2 best2 heavy byk lan siz cel bef)[i]?) = (wc_X7_one cy qm (um 0) (um 1) (um 2) (um 3) (um 4) (um 5) (um 6) (um 7) (um 8) (um 9) (um 10) (um 11) (um 12) (nI pe) dp mb mr mh (nI tn) po be so va rd.2.2 wr he sp bc bm l1 l2 l3 torn (nf_a S) (nf_a N)).map some := rfl
  refine cu_i (fun (u : Int32 × Int32 × (Nat → Int32)) => lw_W cy qx ux qm um torn now trial wg0 wg1 wg2 wg3 seen k0 k1 iw0 iw1 is0 is1 (sf 0) (sf 1) (sf 2) (sf 3) tp rd row best (nI pe) dp mb mr mh (nI tn) po be so va rd.2.2 wr u.1 u.2.1 bc bm l1 l2 l3 torn (nf_a S) u.2.2 kp (nf_a Dr) tape row2 best2 heavy byk lan siz cel bef) hP hD hS hA [71, 72, 73] hC (by decide +kernel) (fun hPc hDc hF => va_runV (As := [.int z1, .int z2]) (rest := [.int r]) (C := RX7) ⟨hx, hb, hml, hown, hts⟩ (c_X7_one l D cy H.size qm (um 0) (um 1) (um 2) (um 3) (um 4) (um 5) (um 6) (um 7) (um 8) (um 9) (um 10) (um 11) (um 12) (nI pe) dp mb mr mh (nI tn) po be so va rd.2.2 wr he sp bc bm l1 l2 l3 torn (nf_a S) (nf_a N) z1 z2 (f := 5000) e2) ⟨callB_of 2 hts (wg_law k_899) rfl rfl rfl (htw _ k_8) (htw _ k_896) (by decide +kernel) ⟨by decide, by decide⟩, (htw _ k_897), (htw _ k_898)⟩ ⟨st_blind, va_recv hK.1 hPc (ci := 7) (q0 := 0) rfl rfl, fun U hU hW => st_pre hK hPc hDc hU hW⟩ rfl rfl hl.1 rfl (lv_room (Nat.le_of_ble_eq_true rfl)) dL_law_324 ⟨by decide, by decide⟩) (fun _ => rfl) (fun _ => rfl) (fun r0 u H locs hw hP hD hS => ?_)
  obtain ⟨hw1, hw2⟩ := hw
  obtain rfl := hw1.symm
  obtain rfl := hw2.symm
  have hP : va_P D vwCl (lw_W cy qx ux qm um torn now trial wg0 wg1 wg2 wg3 seen k0 k1 iw0 iw1 is0 is1 (sf 0) (sf 1) (sf 2) (sf 3) tp rd row best (nI pe) dp mb mr mh (nI tn) po be so va rd.2.2 wr q.1 q.2.1 bc bm l1 l2 l3 torn (nf_a S) q.2.2 kp (nf_a Dr) tape row2 best2 heavy byk lan siz cel bef) H := hP
  have hD : va_D (fun q : Nat => s.heap.size ≤ q) (lw_W cy qx ux qm um torn now trial wg0 wg1 wg2 wg3 seen k0 k1 iw0 iw1 is0 is1 (sf 0) (sf 1) (sf 2) (sf 3) tp rd row best (nI pe) dp mb mr mh (nI tn) po be so va rd.2.2 wr q.1 q.2.1 bc bm l1 l2 l3 torn (nf_a S) q.2.2 kp (nf_a Dr) tape row2 best2 heavy byk lan siz cel bef) := hD
  refine W.eq (g2 := F0 m 327 ls [.int r, .int r]) rfl ?_
  refine lv_icmp_eq (tgt := 1353) hx hb dL_law_327 (by decide) (fun _ => ?_) (fun cc => absurd rfl cc)
  have hR2 : lw_R cy qx ux qm um (lw_W cy qx ux qm um torn now trial wg0 wg1 wg2 wg3 seen k0 k1 iw0 iw1 is0 is1 (sf 0) (sf 1) (sf 2) (sf 3) tp rd row best (nI pe) dp mb mr mh (nI tn) po be so va rd.2.2 wr q.1 q.2.1 bc bm l1 l2 l3 torn (nf_a S) q.2.2 kp (nf_a Dr) tape row2 best2 heavy byk lan siz cel bef) := lw_mk (sf := sf) rfl rfl h1 hi0 hi1 hs4 htp
  exact lx_T C0 kk _ _ _ _ hR2 hP hD hS (lv_sub hl [0, 1, 2, 3] rfl)
