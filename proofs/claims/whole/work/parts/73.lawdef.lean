/-! the world of the law: class and reference; what ties them -/
abbrev lw_W (cy : Nat → ClassId) (qx : Nat) (ux : Nat → Nat) (qm : Nat) (um : Nat → Nat) (torn : Int32) (now : s_W) (trial : s_W) (wg0 : s_W) (wg1 : s_W) (wg2 : s_W) (wg3 : s_W) (seen : s_V) (k0 : Int32) (k1 : Int32) (iw0 : s_W) (iw1 : s_W) (is0 : s_V) (is1 : s_V) (sh0 : s_S) (sh1 : s_S) (sh2 : s_S) (sh3 : s_S) (tp : s_T) (rd : s_R) (row : Nat → Int32) (best : Nat → Int32) (m_people : Int32) (m_dPeople : Int32) (m_hasBarrow : Int32) (m_hasRota : Int32) (m_highest : Int32) (m_taped : Int32) (m_pos : Int32) (m_begun : Int32) (m_sort : Int32) (m_value : Int32) (m_fault : Int32) (m_wrongAt : Int32) (m_healed : Int32) (m_spilt : Int32) (m_bestCode : Int32) (m_bestMuch : Int32) (m_lightSum : Int64) (m_weightSum : Int64) (m_allWays : Int64) (m_torn : Int32) (m_st : Nat → Int32) (m_now : Nat → Int32) (m_isKept : Nat → Int32) (m_draft : Nat → Int32) (m_tape : Nat → Int32) (m_row : Nat → Int32) (m_bestRow : Nat → Int32) (m_heavy : Nat → Int32) (m_byKind : Nat → Int32) (m_lanes : Nat → Int32) (m_sizes : Nat → Int32) (m_cells : Nat → Int32) (m_before : Nat → Int32) : va_W := (qx, .inr (6, [.ref (ux 0), .ref (ux 5), .ref (ux 10), .ref (ux 11), .ref (ux 15), .ref (ux 16), .ref (ux 17), .ref (ux 19), .ref (ux 20), .ref (ux 21), .int torn])) ::
  ((ux 0), .inr (5, [.ref (ux 1), .ref (ux 2), .ref (ux 3), .ref (ux 4), .int now.1, .int now.2.1, .int now.2.2.1, .int now.2.2.2.1, .int now.2.2.2.2.1, .int now.2.2.2.2.2.1, .int now.2.2.2.2.2.2.1])) ::
  ((ux 1), .inl (cy 1, 5, .inl now.2.2.2.2.2.2.2.1)) ::
  ((ux 2), .inl (cy 1, 5, .inl now.2.2.2.2.2.2.2.2.1)) ::
  ((ux 3), .inl (cy 1, 5, .inl now.2.2.2.2.2.2.2.2.2.1)) ::
  ((ux 4), .inl (cy 1, 8, .inl now.2.2.2.2.2.2.2.2.2.2)) ::
  ((ux 5), .inr (5, [.ref (ux 6), .ref (ux 7), .ref (ux 8), .ref (ux 9), .int trial.1, .int trial.2.1, .int trial.2.2.1, .int trial.2.2.2.1, .int trial.2.2.2.2.1, .int trial.2.2.2.2.2.1, .int trial.2.2.2.2.2.2.1])) ::
  ((ux 6), .inl (cy 1, 5, .inl trial.2.2.2.2.2.2.2.1)) ::
  ((ux 7), .inl (cy 1, 5, .inl trial.2.2.2.2.2.2.2.2.1)) ::
  ((ux 8), .inl (cy 1, 5, .inl trial.2.2.2.2.2.2.2.2.2.1)) ::
  ((ux 9), .inl (cy 1, 8, .inl trial.2.2.2.2.2.2.2.2.2.2)) ::
  ((ux 10), .inl (cy 5, 4, .inr (.inr (.inr (.inr (fun j => if j = 0 then some (ux 22) else if j = 1 then some (ux 27) else if j = 2 then some (ux 32) else if j = 3 then some (ux 37) else none)))))) ::
  ((ux 11), .inr (3, [.ref (ux 12), .ref (ux 13), .ref (ux 14), .int seen.1])) ::
  ((ux 12), .inl (cy 1, 6, .inl seen.2.1)) ::
  ((ux 13), .inl (cy 1, 6, .inl seen.2.2.1)) ::
  ((ux 14), .inl (cy 1, 6, .inl seen.2.2.2)) ::
  ((ux 15), .inl (cy 3, 2, .inr (.inr (.inr (.inr (fun j => if j = 0 then some (ux 42) else if j = 1 then some (ux 52) else none)))))) ::
  ((ux 16), .inl (cy 4, 4, .inr (.inr (.inr (.inr (fun j => if j = 0 then some (ux 62) else if j = 1 then some (ux 64) else if j = 2 then some (ux 66) else if j = 3 then some (ux 68) else none)))))) ::
  ((ux 17), .inr (4, [.ref (ux 18), .int tp.1, .int tp.2.1, .int tp.2.2.1, .int tp.2.2.2.1, .int tp.2.2.2.2.1])) ::
  ((ux 18), .inl (cy 0, 160, .inl tp.2.2.2.2.2)) ::
  ((ux 19), .inr (1, [.ref (ux 17), .ref (ux 5), .int rd.1, .int rd.2.1, .int rd.2.2])) ::
  ((ux 20), .inl (cy 1, 8, .inl row)) ::
  ((ux 21), .inl (cy 1, 8, .inl best)) ::
  ((ux 22), .inr (5, [.ref (ux 23), .ref (ux 24), .ref (ux 25), .ref (ux 26), .int wg0.1, .int wg0.2.1, .int wg0.2.2.1, .int wg0.2.2.2.1, .int wg0.2.2.2.2.1, .int wg0.2.2.2.2.2.1, .int wg0.2.2.2.2.2.2.1])) ::
  ((ux 23), .inl (cy 1, 5, .inl wg0.2.2.2.2.2.2.2.1)) ::
  ((ux 24), .inl (cy 1, 5, .inl wg0.2.2.2.2.2.2.2.2.1)) ::
  ((ux 25), .inl (cy 1, 5, .inl wg0.2.2.2.2.2.2.2.2.2.1)) ::
  ((ux 26), .inl (cy 1, 8, .inl wg0.2.2.2.2.2.2.2.2.2.2)) ::
  ((ux 27), .inr (5, [.ref (ux 28), .ref (ux 29), .ref (ux 30), .ref (ux 31), .int wg1.1, .int wg1.2.1, .int wg1.2.2.1, .int wg1.2.2.2.1, .int wg1.2.2.2.2.1, .int wg1.2.2.2.2.2.1, .int wg1.2.2.2.2.2.2.1])) ::
  ((ux 28), .inl (cy 1, 5, .inl wg1.2.2.2.2.2.2.2.1)) ::
  ((ux 29), .inl (cy 1, 5, .inl wg1.2.2.2.2.2.2.2.2.1)) ::
  ((ux 30), .inl (cy 1, 5, .inl wg1.2.2.2.2.2.2.2.2.2.1)) ::
  ((ux 31), .inl (cy 1, 8, .inl wg1.2.2.2.2.2.2.2.2.2.2)) ::
  ((ux 32), .inr (5, [.ref (ux 33), .ref (ux 34), .ref (ux 35), .ref (ux 36), .int wg2.1, .int wg2.2.1, .int wg2.2.2.1, .int wg2.2.2.2.1, .int wg2.2.2.2.2.1, .int wg2.2.2.2.2.2.1, .int wg2.2.2.2.2.2.2.1])) ::
  ((ux 33), .inl (cy 1, 5, .inl wg2.2.2.2.2.2.2.2.1)) ::
  ((ux 34), .inl (cy 1, 5, .inl wg2.2.2.2.2.2.2.2.2.1)) ::
  ((ux 35), .inl (cy 1, 5, .inl wg2.2.2.2.2.2.2.2.2.2.1)) ::
  ((ux 36), .inl (cy 1, 8, .inl wg2.2.2.2.2.2.2.2.2.2.2)) ::
  ((ux 37), .inr (5, [.ref (ux 38), .ref (ux 39), .ref (ux 40), .ref (ux 41), .int wg3.1, .int wg3.2.1, .int wg3.2.2.1, .int wg3.2.2.2.1, .int wg3.2.2.2.2.1, .int wg3.2.2.2.2.2.1, .int wg3.2.2.2.2.2.2.1])) ::
  ((ux 38), .inl (cy 1, 5, .inl wg3.2.2.2.2.2.2.2.1)) ::
  ((ux 39), .inl (cy 1, 5, .inl wg3.2.2.2.2.2.2.2.2.1)) ::
  ((ux 40), .inl (cy 1, 5, .inl wg3.2.2.2.2.2.2.2.2.2.1)) ::
  ((ux 41), .inl (cy 1, 8, .inl wg3.2.2.2.2.2.2.2.2.2.2)) ::
  ((ux 42), .inr (0, [.ref (ux 43), .ref (ux 48), .int k0])) ::
  ((ux 43), .inr (5, [.ref (ux 44), .ref (ux 45), .ref (ux 46), .ref (ux 47), .int iw0.1, .int iw0.2.1, .int iw0.2.2.1, .int iw0.2.2.2.1, .int iw0.2.2.2.2.1, .int iw0.2.2.2.2.2.1, .int iw0.2.2.2.2.2.2.1])) ::
  ((ux 44), .inl (cy 1, 5, .inl iw0.2.2.2.2.2.2.2.1)) ::
  ((ux 45), .inl (cy 1, 5, .inl iw0.2.2.2.2.2.2.2.2.1)) ::
  ((ux 46), .inl (cy 1, 5, .inl iw0.2.2.2.2.2.2.2.2.2.1)) ::
  ((ux 47), .inl (cy 1, 8, .inl iw0.2.2.2.2.2.2.2.2.2.2)) ::
  ((ux 48), .inr (3, [.ref (ux 49), .ref (ux 50), .ref (ux 51), .int is0.1])) ::
  ((ux 49), .inl (cy 1, 6, .inl is0.2.1)) ::
  ((ux 50), .inl (cy 1, 6, .inl is0.2.2.1)) ::
  ((ux 51), .inl (cy 1, 6, .inl is0.2.2.2)) ::
  ((ux 52), .inr (0, [.ref (ux 53), .ref (ux 58), .int k1])) ::
  ((ux 53), .inr (5, [.ref (ux 54), .ref (ux 55), .ref (ux 56), .ref (ux 57), .int iw1.1, .int iw1.2.1, .int iw1.2.2.1, .int iw1.2.2.2.1, .int iw1.2.2.2.2.1, .int iw1.2.2.2.2.2.1, .int iw1.2.2.2.2.2.2.1])) ::
  ((ux 54), .inl (cy 1, 5, .inl iw1.2.2.2.2.2.2.2.1)) ::
  ((ux 55), .inl (cy 1, 5, .inl iw1.2.2.2.2.2.2.2.2.1)) ::
  ((ux 56), .inl (cy 1, 5, .inl iw1.2.2.2.2.2.2.2.2.2.1)) ::
  ((ux 57), .inl (cy 1, 8, .inl iw1.2.2.2.2.2.2.2.2.2.2)) ::
  ((ux 58), .inr (3, [.ref (ux 59), .ref (ux 60), .ref (ux 61), .int is1.1])) ::
  ((ux 59), .inl (cy 1, 6, .inl is1.2.1)) ::
  ((ux 60), .inl (cy 1, 6, .inl is1.2.2.1)) ::
  ((ux 61), .inl (cy 1, 6, .inl is1.2.2.2)) ::
  ((ux 62), .inr (2, [.ref (ux 63), .int sh0.1, .int sh0.2.1])) ::
  ((ux 63), .inl (cy 1, 40, .inl sh0.2.2)) ::
  ((ux 64), .inr (2, [.ref (ux 65), .int sh1.1, .int sh1.2.1])) ::
  ((ux 65), .inl (cy 1, 40, .inl sh1.2.2)) ::
  ((ux 66), .inr (2, [.ref (ux 67), .int sh2.1, .int sh2.2.1])) ::
  ((ux 67), .inl (cy 1, 40, .inl sh2.2.2)) ::
  ((ux 68), .inr (2, [.ref (ux 69), .int sh3.1, .int sh3.2.1])) ::
  ((ux 69), .inl (cy 1, 40, .inl sh3.2.2)) ::
  (qm, .inr (7, [.ref (um 0), .ref (um 1), .ref (um 2), .int m_people, .ref (um 3), .int m_dPeople, .int m_hasBarrow, .int m_hasRota, .int m_highest, .ref (um 4), .int m_taped, .int m_pos, .int m_begun, .int m_sort, .int m_value, .int m_fault, .int m_wrongAt, .int m_healed, .int m_spilt, .int m_bestCode, .int m_bestMuch, .ref (um 5), .ref (um 6), .long m_lightSum, .long m_weightSum, .long m_allWays, .ref (um 7), .ref (um 8), .ref (um 9), .ref (um 10), .ref (um 11), .int m_torn, .ref (um 12)])) ::
  ((um 0), .inl (cy 1, 138, .inl m_st)) ::
  ((um 1), .inl (cy 1, 46, .inl m_now)) ::
  ((um 2), .inl (cy 2, 2, .inl m_isKept)) ::
  ((um 3), .inl (cy 1, 46, .inl m_draft)) ::
  ((um 4), .inl (cy 1, 160, .inl m_tape)) ::
  ((um 5), .inl (cy 1, 5, .inl m_row)) ::
  ((um 6), .inl (cy 1, 5, .inl m_bestRow)) ::
  ((um 7), .inl (cy 1, 125, .inl m_heavy)) ::
  ((um 8), .inl (cy 1, 500, .inl m_byKind)) ::
  ((um 9), .inl (cy 1, 4, .inl m_lanes)) ::
  ((um 10), .inl (cy 1, 4, .inl m_sizes)) ::
  ((um 11), .inl (cy 1, 160, .inl m_cells)) ::
  ((um 12), .inl (cy 1, 46, .inl m_before)) :: []
def lw_R (cy : Nat → ClassId) (qx : Nat) (ux : Nat → Nat) (qm : Nat) (um : Nat → Nat) (ws : va_W) : Prop := ∃ (pe tn : Nat) (S N Dr : Nat → Nat) (torn : Int32) (now trial wg0 wg1 wg2 wg3 : s_W) (seen : s_V) (k0 k1 : Int32) (iw0 iw1 : s_W) (is0 is1 : s_V) (sf : Nat → s_S) (tp : s_T) (rd : s_R) (row best : Nat → Int32) (dp mb mr mh po be so va wr he sp bc bm : Int32) (l1 l2 l3 : Int64) (kp tape row2 best2 heavy byk lan siz cel bef : Nat → Int32), ws = lw_W cy qx ux qm um torn now trial wg0 wg1 wg2 wg3 seen k0 k1 iw0 iw1 is0 is1 (sf 0) (sf 1) (sf 2) (sf 3) tp rd row best (nI pe) dp mb mr mh (nI tn) po be so va rd.2.2 wr he sp bc bm l1 l2 l3 torn (nf_a S) (nf_a N) kp (nf_a Dr) tape row2 best2 heavy byk lan siz cel bef ∧ bk_s pe S now seen ∧ im_r pe S 0 k0 (kp 0) iw0 is0 ∧ im_r pe S 1 k1 (kp 1) iw1 is1 ∧ sr_4 lan siz cel sf ∧ tp_r tp tn tape
theorem lw_mk {cy : Nat → ClassId} {qx qm : Nat} {ux um : Nat → Nat} {pe tn : Nat} {torn : Int32} {now trial wg0 wg1 wg2 wg3 : s_W} {seen : s_V} {k0 k1 : Int32} {iw0 iw1 : s_W} {is0 is1 : s_V} {sf : Nat → s_S} {tp : s_T} {rd : s_R} {row best : Nat → Int32} {dp mb mr mh po be so va wr he sp bc bm : Int32} {l1 l2 l3 : Int64} {kp tape row2 best2 heavy byk lan siz cel bef : Nat → Int32} {S : Nat → Nat} {mn dr : Nat → Int32} {fa tm : Int32} (ef : fa = rd.2.2) (et : tm = torn) (h1 : bk_s pe S now seen) (h2 : im_r pe S 0 k0 (kp 0) iw0 is0) (h3 : im_r pe S 1 k1 (kp 1) iw1 is1) (h4 : sr_4 lan siz cel sf) (h5 : tp_r tp tn tape) : lw_R cy qx ux qm um (lw_W cy qx ux qm um torn now trial wg0 wg1 wg2 wg3 seen k0 k1 iw0 iw1 is0 is1 (sf 0) (sf 1) (sf 2) (sf 3) tp rd row best (nI pe) dp mb mr mh (nI tn) po be so va fa wr he sp bc bm l1 l2 l3 tm (nf_a S) mn kp dr tape row2 best2 heavy byk lan siz cel bef) := by
  subst ef et
  obtain ⟨N, rfl⟩ := nf_ex mn
  obtain ⟨Dr, rfl⟩ := nf_ex dr
  exact ⟨_, _, _, _, _, _, _, _, _, _, _, _, _, _, _, _, _, _, _, _, _, _, _, _, _, _, _, _, _, _, _, _, _, _, _, _, _, _, _, _, _, _, _, _, _, _, _, _, _, _, rfl, h1, h2, h3, h4, h5⟩
def R_law : String := "BarrowGriefLaw"
def lw_P (b : Addr) (xs : List Int32) (args : Array Value) (s : State) : Prop := args = #[.ref b] ∧ s.IntsAt b xs ∧ xs.length ≤ 320 ∧ (Jvm.Cond.and given_1 narrow_1).before args s = true
def lw_Q (_ : Array Value) (s : State) (o : Outcome) (t : State) : Prop := o = .returned (some (.int 1)) ∧ Framed s o t [] 600000 7302250
def lw_Z (below : List Frame) (a : Array Value) (s : State) : State → Prop := fun t => ∃ o, t.status = .running ∧ Ended t below o ∧ lw_Q a s o t
/-- the law's own end, with 1 on the stack, nothing written that was there before, its room as the claim has it -/
theorem lw_ret {p : Program} {l : Launch} {e : Env} {s : State} {m : MethodId} {below : List Frame} {meth : Method} {c : Code} {b : Nat} (hx : p.tables.exec = Jvm.exec) (hb : c.code = code) (hr : meth.sig.returnType = ret) (hlocks : meth.locks = false) {pc : Nat} {H : Heap} {ls : Array Slot} (hdg : decode code pc = .ok (.ireturn, 1)) : W p l e room_1 s m #[Value.ref b] below meth c H [] 600000 7302250 (lw_Z below #[Value.ref b] s) (F0 m pc ls [.int 1]) := by
  intro T hT X
  obtain ⟨fs, hret, hrun, hended, hW, hframe⟩ := X.leave (v := some (.int 1)) (hlocks := hlocks) (fun h => by rw [hr] at h; cases h)
  have hmeth' : T.vm.method? m = some meth := X.method'
  refine ⟨T.setFrames fs, ?_, .returned (some (.int 1)), hrun, hended, rfl, ⟨_, rfl⟩, hW, hframe⟩
  jvm_step X.here [X.here.top, hx, hb, hdg, hmeth', hr, ret, narrow_b1]
  (try refine ⟨rfl, ?_⟩); (try refine ⟨rfl, ?_⟩)
  first | (intro acts; rw [hret _ acts rfl rfl rfl]) | rw [hret _ _ rfl rfl rfl]
  exact Steps.refl _
/-- what holds at the law's entry: the machine, the code, the tables' words (any of lw_tbl by 'hts w (by decide +kernel)'), the script of L ints xs at the cell b, what the Statement gives of the start (any of its parts by flat_of_before) -/
def lw_At (p : Program) (s : State) (m : MethodId) (meth : Method) (c : Code) (b L : Nat) (xs : Nat → Int32) : Prop :=
  p.tables.exec = Jvm.exec ∧ c.code = code ∧ meth.sig.returnType = ret ∧ c.maxLocals = 4 ∧ s.vm.findClass R_law = some m.cls ∧ (∀ w ∈ lw_tbl, w.before #[Value.ref b] s = true) ∧ va_X b L xs s s.heap ∧ b < s.heap.size ∧ meth.locks = false ∧ (Jvm.Cond.and given_1 narrow_1).before #[Value.ref b] s = true
/-- what the walk of the law knows from its entry on -/
def lx_C (p : Program) (s : State) (m : MethodId) (meth : Method) (c : Code) (b L : Nat) (xs : Nat → Int32) (D : va_G) (cy : Nat → ClassId) (X : (Nat → Nat) × (Nat → Nat)) : Prop := lw_At p s m meth c b L xs ∧ L ≤ 320 ∧ kk_K D cy s ∧ sx_E X (fun q : Nat => s.heap.size ≤ q) s s.heap
/-- from pc on, the index being v, class and reference as tied: the law ends with 1 -/
def lx_G (p : Program) (l : Launch) (e : Env) (s : State) (m : MethodId) (below : List Frame) (meth : Method) (c : Code) (b : Nat) (D : va_G) (cy : Nat → ClassId) (qx : Nat) (ux : Nat → Nat) (qm : Nat) (um : Nat → Nat) (v : Int32) (pc : Nat) : Prop := ∀ (ws : va_W) (H : Heap) (locs : List Loc) (ls : Array Slot), lw_R cy qx ux qm um ws → va_P D vwCl ws H → va_D (fun q : Nat => s.heap.size ≤ q) ws → va_S (fun q : Nat => s.heap.size ≤ q) s.heap H locs → lv_has ls 4 [(3, .int v), (0, .ref b), (1, .ref qx), (2, .ref qm)] → W p l e room_1 s m #[Value.ref b] below meth c H locs 85 1998 (lw_Z below #[Value.ref b] s) (F0 m pc ls [])
theorem lx_v {i L k : Nat} (h : i + 5 ≤ L) (hk : k < 5) (hL : L ≤ 320) : vp_in (nI i + nI k) L := by
  rw [nI_add]
  exact vp_in_nI (by omega) (by omega)
theorem lx_h {s : State} {b : Nat} (hts : ∀ w ∈ lw_tbl, w.before #[Value.ref b] s = true) : ∀ w ∈ wg_L, w.before #[Value.ref b] s = true := fun w h => hts w (List.mem_filter.mp h).1
set_option maxRecDepth 100000 in
/-- the loop's end: the index grows by 5 -/
theorem lx_T {p : Program} {l : Launch} {e : Env} {s : State} {m : MethodId} {below : List Frame} {meth : Method} {c : Code} {b L : Nat} {xs : Nat → Int32} {D : va_G} {cy : Nat → ClassId} {X : (Nat → Nat) × (Nat → Nat)} {qx qm : Nat} {ux um : Nat → Nat} {v : Int32} (C0 : lx_C p s m meth c b L xs D cy X) (kk : lx_G p l e s m below meth c b D cy qx ux qm um (v + 5) 18) : lx_G p l e s m below meth c b D cy qx ux qm um v 1353 := by
  intro ws H locs ls hR hP hD hS hl
  obtain ⟨⟨hx, hb, hr, hml, hown, hts, hX, hbl, hlocks, hgv⟩, hL, hK, hE⟩ := id C0
  refine lv_iinc (v := v + 5) (lv' := [(3, .int (v + 5)), (0, .ref b), (1, .ref qx), (2, .ref qm)]) hx hb dL_law_1353 hl (k := 0) rfl (by rfl) (by decide) rfl (fun ls hl => ?_)
  refine lv_goto (tgt := 18) hx hb dL_law_1356 (by decide) ?_
  exact kk ws H locs ls hR hP hD hS hl
