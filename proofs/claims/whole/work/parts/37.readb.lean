/-! read -/
def wr_n (S P V : Nat → Nat) : Nat → (Nat → Nat)
  | 0 => S
  | j + 1 => up_n (wr_n S P V j) (3 * P j + 1) (V j)
def rq_n (F : Int32) (j : Nat) : Nat := (F + nI (2 * j)).toNatClampNeg
def rp_n (F : Int32) (A : Nat → Int32) (j : Nat) : Nat := (A (rq_n F j)).toNatClampNeg
def rv_n (F : Int32) (A : Nat → Int32) (j : Nat) : Nat := (A (rq_n F j + 1)).toNatClampNeg
/-- the first i pairs of a sheet's cells may be written -/
def ri_p (pe : Nat) (F : Int32) (A : Nat → Int32) (i : Nat) : Prop := ∀ j, j < i → F + nI (2 * j) = nI (rq_n F j) ∧ rq_n F j + 1 < 40 ∧ A (rq_n F j) = nI (rp_n F A j) ∧ A (rq_n F j + 1) = nI (rv_n F A j) ∧ rp_n F A j < pe ∧ rv_n F A j ≤ 99
theorem wr_o {pe : Nat} {S : Nat → Nat} {F : Int32} {A : Nat → Int32} (h5 : pe ≤ 5) : ∀ (i : Nat), ri_p pe F A i → ∀ q, 15 ≤ q → wr_n S (rp_n F A) (rv_n F A) i q = S q := by
  intro i
  induction i with
  | zero => intro _ q _; rfl
  | succ i ih =>
    intro h q hq
    have hi := h i (by omega)
    rw [wr_n, up_o (by omega)]
    exact ih (fun j hj => h j (by omega)) q hq
theorem wr_g {pe : Nat} {S : Nat → Nat} {F : Int32} {A : Nat → Int32} (g : gd_s pe S) : ∀ (i : Nat), ri_p pe F A i → gd_s pe (wr_n S (rp_n F A) (rv_n F A) i) := by
  intro i
  induction i with
  | zero => intro _; exact g
  | succ i ih =>
    intro h
    have hi := h i (by omega)
    rw [wr_n]
    exact gd_G (ih (fun j hj => h j (by omega))) hi.2.2.2.2.1 hi.2.2.2.2.2
section
variable {pe : Nat} {S : Nat → Nat} {v : s_V}
/-- the reference's two looks at a pair -/
theorem rf_77 {k62 : Int32 → (Nat → Int32) → (Nat → Int32) → Int32 → Int32 → Int32 → Int32 → Int32 → Int32 → Int32 → Option (Int32 × Int32 × (Nat → Int32) × (Nat → Int32))} {P torn lane F N W : Int32} {L Z C st bf : Nat → Int32} {k i f : Nat} (hk : k < 4) (hi : i ≤ 20) :
    (L k = -4 → M_X7_read_77 k62 P L Z C (f + 3) torn st bf (nI k) lane F N 0 W (nI i) 0 = k62 torn st bf (nI k) lane F N 1 W (nI i + 1)) ∧
    (¬ L k = -4 → ¬ L k = lane → M_X7_read_77 k62 P L Z C (f + 3) torn st bf (nI k) lane F N 0 W (nI i) 0 = k62 torn st bf (nI k) lane F N 3 W (nI i + 1)) ∧
    (∀ n : Nat, n ≤ 40 → Z k = nI n → ¬ L k = -4 → L k = lane → (F.toInt + ((2 * i : Nat) : Int) < 0 ∨ (n : Int) ≤ F.toInt + ((2 * i : Nat) : Int) ∨ F.toInt + ((2 * i + 1 : Nat) : Int) < 0 ∨ (n : Int) ≤ F.toInt + ((2 * i + 1 : Nat) : Int)) → M_X7_read_77 k62 P L Z C (f + 3) torn st bf (nI k) lane F N 0 W (nI i) 0 = k62 torn st bf (nI k) lane F N 2 W (nI i + 1)) ∧
    (∀ n : Nat, n ≤ 40 → Z k = nI n → ¬ L k = -4 → L k = lane → ¬ (F.toInt + ((2 * i : Nat) : Int) < 0 ∨ (n : Int) ≤ F.toInt + ((2 * i : Nat) : Int) ∨ F.toInt + ((2 * i + 1 : Nat) : Int) < 0 ∨ (n : Int) ≤ F.toInt + ((2 * i + 1 : Nat) : Int)) → M_X7_read_77 k62 P L Z C (f + 3) torn st bf (nI k) lane F N 0 W (nI i) 0 = B_X7_read_164 k62 P L Z C f torn st bf (nI k) lane F N 0 W (nI i)) := by
  have s2 : ∀ (g : Nat) (r : Int32), ¬ r = 0 → M_X7_read_77 k62 P L Z C (g + 1) torn st bf (nI k) lane F N r W (nI i) 1 = k62 torn st bf (nI k) lane F N r W (nI i + 1) := by
    intro g r hr
    show B_X7_read_77 _ _ _ _ _ _ _ _ _ _ _ _ _ _ _ _ _ _ = _
    unfold B_X7_read_77 B_X7_read_164 B_X7_read_245
    rw [if_neg (show ¬ (2 : Int32) ≤ 1 by decide), if_neg hr, if_neg hr]
  have s3 : ∀ (g : Nat), M_X7_read_77 k62 P L Z C (g + 1) torn st bf (nI k) lane F N 2 W (nI i) 2 = k62 torn st bf (nI k) lane F N 2 W (nI i + 1) := by
    intro g
    show B_X7_read_77 _ _ _ _ _ _ _ _ _ _ _ _ _ _ _ _ _ _ = _
    unfold B_X7_read_77 B_X7_read_164 B_X7_read_245
    rw [if_pos (show (2 : Int32) ≤ 2 by decide), if_neg (show ¬ (2 : Int32) = 0 by decide)]
  have s4 : ∀ (g : Nat), M_X7_read_77 k62 P L Z C (g + 1) torn st bf (nI k) lane F N 0 W (nI i) 2 = B_X7_read_164 k62 P L Z C g torn st bf (nI k) lane F N 0 W (nI i) := by
    intro g
    show B_X7_read_77 _ _ _ _ _ _ _ _ _ _ _ _ _ _ _ _ _ _ = _
    unfold B_X7_read_77
    rw [if_pos (show (2 : Int32) ≤ 2 by decide)]
  have e2 : (2 : Int32) * nI i = nI (2 * i) := by rw [show (2 : Int32) = nI 2 from rfl, pk_mul]
  have s1 : ∀ (g c : Nat), c ≤ 1 → M_X7_read_77 k62 P L Z C (g + 1) torn st bf (nI k) lane F N 0 W (nI i) (nI c) = if L k = -4 then M_X7_read_77 k62 P L Z C g torn st bf (nI k) lane F N 1 W (nI i) (nI (c + 1)) else if L k = lane then (if lg_cmp (F.toInt64 + (nI (2 * i)).toInt64 + (nI c).toInt64) 0 < 0 then M_X7_read_77 k62 P L Z C g torn st bf (nI k) lane F N 2 W (nI i) (nI (c + 1)) else if lg_cmp (F.toInt64 + (nI (2 * i)).toInt64 + (nI c).toInt64) (Z k).toInt64 < 0 then M_X7_read_77 k62 P L Z C g torn st bf (nI k) lane F N 0 W (nI i) (nI (c + 1)) else M_X7_read_77 k62 P L Z C g torn st bf (nI k) lane F N 2 W (nI i) (nI (c + 1))) else M_X7_read_77 k62 P L Z C g torn st bf (nI k) lane F N 3 W (nI i) (nI (c + 1)) := by
    intro g c hc
    show B_X7_read_77 _ _ _ _ _ _ _ _ _ _ _ _ _ _ _ _ _ _ = _
    unfold B_X7_read_77 B_X7_read_156 B_X7_read_151 B_X7_read_156
    rw [e2]
    simp (disch := omega) only [nm_s, gi_k, nI_clamp, nI_1]
    rw [if_neg (show ¬ (2 : Int32) ≤ nI c from nI_ge (a := c) (b := 2) (by omega) (by omega))]
    simp only [if_true]
  have c0 := lg_c (F := F) (a := 2 * i) (c := 0) (n := 0) (by omega) (by omega)
  have c1 := lg_c (F := F) (a := 2 * i) (c := 1) (n := 0) (by omega) (by omega)
  refine ⟨fun hl => ?_, fun hl hl2 => ?_, fun n hn hz hl hl2 hx => ?_, fun n hn hz hl hl2 hx => ?_⟩
  · rw [show M_X7_read_77 k62 P L Z C (f + 3) torn st bf (nI k) lane F N 0 W (nI i) 0 = _ from s1 (f + 2) 0 (by omega), if_pos hl]
    exact s2 (f + 1) 1 (by decide)
  · rw [show M_X7_read_77 k62 P L Z C (f + 3) torn st bf (nI k) lane F N 0 W (nI i) 0 = _ from s1 (f + 2) 0 (by omega), if_neg hl, if_neg hl2]
    exact s2 (f + 1) 3 (by decide)
  · rw [show M_X7_read_77 k62 P L Z C (f + 3) torn st bf (nI k) lane F N 0 W (nI i) 0 = _ from s1 (f + 2) 0 (by omega), if_neg hl, if_pos hl2, hz]
    simp only [c0.1, c0.2 n (by omega)]
    by_cases d1 : F.toInt + ((2 * i + 0 : Nat) : Int) < 0
    · rw [if_pos d1]; exact s2 (f + 1) 2 (by decide)
    · rw [if_neg d1]
      by_cases d2 : F.toInt + ((2 * i + 0 : Nat) : Int) < n
      · rw [if_pos d2, s1 (f + 1) 1 (by omega), if_neg hl, if_pos hl2, hz]
        simp only [c1.1, c1.2 n (by omega)]
        by_cases d3 : F.toInt + ((2 * i + 1 : Nat) : Int) < 0
        · rw [if_pos d3]; exact s3 f
        · rw [if_neg d3, if_neg (by omega)]; exact s3 f
      · rw [if_neg d2]; exact s2 (f + 1) 2 (by decide)
  · rw [show M_X7_read_77 k62 P L Z C (f + 3) torn st bf (nI k) lane F N 0 W (nI i) 0 = _ from s1 (f + 2) 0 (by omega), if_neg hl, if_pos hl2, hz]
    simp only [c0.1, c0.2 n (by omega)]
    rw [if_neg (by omega), if_pos (by omega), s1 (f + 1) 1 (by omega), if_neg hl, if_pos hl2, hz]
    simp only [c1.1, c1.2 n (by omega)]
    rw [if_neg (by omega), if_pos (by omega)]
    exact s4 f
/-- what was before is put back -/
theorem rf_rs {P torn I : Int32} {L Z C : Nat → Int32} {Bf : Nat → Nat} : ∀ (k f i : Nat) (T : Nat → Nat), i + k = 46 → k < f → M_X7_read_209 P L Z C f torn (nf_a T) (nf_a Bf) I (nI i) = some ((-20) - I, torn, nf_a (fun j => if i ≤ j ∧ j < 46 then Bf j else T j), nf_a Bf) := by
  intro k
  induction k with
  | zero =>
    intro f i T hi hf
    obtain ⟨f, rfl⟩ : ∃ g, f = g + 1 := ⟨f - 1, by omega⟩
    show B_X7_read_209 _ _ _ _ _ _ _ _ _ _ _ = _
    simp (disch := omega) only [B_X7_read_209, show (46 : Int32) = nI 46 from rfl, nI_leI]
    rw [if_pos (by omega)]
    have : T = (fun j => if i ≤ j ∧ j < 46 then Bf j else T j) := by
      funext j
      rw [if_neg (by omega)]
    rw [← this]
  | succ k ih =>
    intro f i T hi hf
    obtain ⟨f, rfl⟩ : ∃ g, f = g + 1 := ⟨f - 1, by omega⟩
    show B_X7_read_209 _ _ _ _ _ _ _ _ _ _ _ = _
    simp (disch := omega) only [B_X7_read_209, show (46 : Int32) = nI 46 from rfl, nI_leI, gi_k, nI_clamp, nf_e, nm_s, nf_u, nI_1]
    rw [if_neg (by omega), ih f (i + 1) _ (by omega) (by omega)]
    have : (fun j => if i + 1 ≤ j ∧ j < 46 then Bf j else up_n T i (Bf i) j) = (fun j => if i ≤ j ∧ j < 46 then Bf j else T j) := by
      funext j
      by_cases e : j = i
      · subst e
        rw [if_neg (by omega), up_s, if_pos (by omega)]
      · by_cases e2 : i + 1 ≤ j ∧ j < 46
        · rw [if_pos e2, if_pos (by omega)]
        · rw [if_neg e2, if_neg (by omega), up_o e]
    rw [this]
theorem rf_26 {P torn k lane F N : Int32} {L Z C : Nat → Int32} : ∀ (m f i : Nat) (Bf : Nat → Nat), i + m = 46 → m < f → ∃ f2, f2 + m + 1 = f ∧ M_X7_read_26 P L Z C f torn (nf_a S) (nf_a Bf) k lane F N (nI i) = M_X7_read_62 P L Z C f2 torn (nf_a S) (nf_a (fun j => if i ≤ j ∧ j < 46 then S j else Bf j)) k lane F N 0 0 0 := by
  intro m
  induction m with
  | zero =>
    intro f i Bf hi hf
    obtain ⟨f, rfl⟩ : ∃ g, f = g + 1 := ⟨f - 1, by omega⟩
    refine ⟨f, by omega, ?_⟩
    show B_X7_read_26 _ _ _ _ _ _ _ _ _ _ _ _ _ _ = _
    simp (disch := omega) only [B_X7_read_26, show (46 : Int32) = nI 46 from rfl, nI_leI]
    rw [if_pos (by omega)]
    have : Bf = (fun j => if i ≤ j ∧ j < 46 then S j else Bf j) := by
      funext j
      rw [if_neg (by omega)]
    rw [← this]
  | succ m ih =>
    intro f i Bf hi hf
    obtain ⟨f, rfl⟩ : ∃ g, f = g + 1 := ⟨f - 1, by omega⟩
    obtain ⟨f2, h1, h2⟩ := ih f (i + 1) (up_n Bf i (S i)) (by omega) (by omega)
    refine ⟨f2, by omega, ?_⟩
    have : (fun j => if i + 1 ≤ j ∧ j < 46 then S j else up_n Bf i (S i) j) = (fun j => if i ≤ j ∧ j < 46 then S j else Bf j) := by
      funext j
      by_cases e : j = i
      · subst e
        rw [if_neg (by omega), up_s, if_pos (by omega)]
      · by_cases e2 : i + 1 ≤ j ∧ j < 46
        · rw [if_pos e2, if_pos (by omega)]
        · rw [if_neg e2, if_neg (by omega), up_o e]
    rw [← this, ← h2]
    show B_X7_read_26 _ _ _ _ _ _ _ _ _ _ _ _ _ _ = _
    simp (disch := omega) only [B_X7_read_26, show (46 : Int32) = nI 46 from rfl, nI_leI, gi_k, nI_clamp, nf_e, nm_s, nf_u, nI_1]
    rw [if_neg (by omega)]
theorem rw_0 {sf : Nat → s_S} {torn F fd : Int32} {he sp m : Nat} {K B R : Nat → Int32} (g : gd_s pe S) (hi : ri_p pe F (sf 0).2.2 m) (hm : m ≤ 20) : ∀ (k f j : Nat) (G : Nat → Int32), j + k = m → k < f → pt_w pe (wr_n S (rp_n F (sf 0).2.2) (rv_n F (sf 0).2.2) j) K G B R → ∃ G2 : Nat → Int32, M_X6_read_140 (sf 0) (sf 1) (sf 2) (sf 3) f torn (mk_w pe S he sp K G B R) F fd (nI m) (nI j) = some (nI m, fd, mk_w pe S he sp K G2 B R) ∧ pt_w pe (wr_n S (rp_n F (sf 0).2.2) (rv_n F (sf 0).2.2) m) K G2 B R := by
  have h5 := g.1
  intro k
  induction k with
  | zero =>
    intro f j G hj hf pt
    obtain ⟨f, rfl⟩ : ∃ g, f = g + 1 := ⟨f - 1, by omega⟩
    obtain rfl : j = m := by omega
    refine ⟨G, ?_, pt⟩
    show B_X6_read_140 _ _ _ _ _ _ _ _ _ _ _ _ = _
    simp (disch := omega) only [B_X6_read_140, nI_leI]
    rw [if_pos (by omega)]
  | succ k ih =>
    intro f j G hj hf pt
    obtain ⟨f, rfl⟩ : ∃ g, f = g + 1 := ⟨f - 1, by omega⟩
    obtain ⟨a1, a2, a3, a4, a5, a6⟩ := hi j (by omega)
    have gj := wr_g (S := S) g j (fun q hq => hi q (by omega))
    obtain ⟨G2, e, p2⟩ := ih f (j + 1) (upd G (rp_n F (sf 0).2.2 j) (nI (rv_n F (sf 0).2.2 j))) (by omega) (by omega) (pt_G gj a5 pt)
    refine ⟨G2, ?_, p2⟩
    rw [← e]
    show B_X6_read_140 _ _ _ _ _ _ _ _ _ _ _ _ = _
    unfold B_X6_read_140
    rw [show F + 2 * nI j = nI (rq_n F j) by rw [show (2 : Int32) = nI 2 from rfl, pk_mul]; exact a1]
    simp (disch := omega) only [nI_leI, nI_1, gi_k, nI_clamp, nm_s, a3, a4]
    rw [if_neg (by omega)]
theorem rd_0 {sf : Nat → s_S} {L Z C : Nat → Int32} {torn F : Int32} {l n he sp : Nat} {Bf : Nat → Nat} {K G B R : Nat → Int32} (hs : sr_4 L Z C sf) (h : bk_s pe S (mk_w pe S he sp K G B R) v) (pt : pt_w pe S K G B R) (hl : l ≤ 2) (hn : n ≤ 20) (hB : ∀ j, j < 46 → Bf j = S j) : ∀ (m f e i : Nat), i + m = n → m + 100 < f → 4 * m + 100 < e → ri_p pe F (sf 0).2.2 i →
    ∃ r tr w2 S2 bf2, M_X6_read_45 (sf 0) (sf 1) (sf 2) (sf 3) f torn (mk_w pe S he sp K G B R) (nI l) F (nI n) 0 (nI i) = some (r, tr, w2) ∧ M_X7_read_62 (nI pe) L Z C e torn (nf_a (wr_n S (rp_n F (sf 0).2.2) (rv_n F (sf 0).2.2) i)) (nf_a Bf) (nI 0) (nI l) F (nI n) 0 (nI i) (nI i) = some (r, tr, nf_a S2, bf2) ∧ bk_s pe S2 w2 v ∧ ∀ q, 46 ≤ q → S2 q = S q := by
  have g := h.2.1
  have h5 := g.1
  have g26 := h.2.2.1
  have gv := h.2.2.2
  -- the end, with what was found
  have fin : ∀ (f i : Nat) (fd : Int32), 50 < f → i ≤ n → ri_p pe F (sf 0).2.2 i → ∃ w2, B_X6_read_137 (sf 0) (sf 1) (sf 2) (sf 3) f torn (mk_w pe S he sp K G B R) F fd (nI i) = some (nI i, fd, w2) ∧ bk_s pe (wr_n S (rp_n F (sf 0).2.2) (rv_n F (sf 0).2.2) i) w2 v ∧ ∀ q, 46 ≤ q → wr_n S (rp_n F (sf 0).2.2) (rv_n F (sf 0).2.2) i q = S q := by
    intro f i fd hf hi hri
    obtain ⟨G2, e2, p2⟩ := rw_0 (torn := torn) (fd := fd) (he := he) (sp := sp) (K := K) (B := B) (R := R) g hri (by omega) i f 0 G (by omega) (by omega) pt
    have ho := wr_o (S := S) h5 i hri
    refine ⟨_, e2, ⟨⟨he, sp, K, G2, B, R, ?_, p2⟩, wr_g g i hri, by rw [ho 26 (by omega)]; exact g26, sg_cg (fun q h1 h2 => ho q (by omega)) gv⟩, fun q hq => ho q (by omega)⟩
    unfold mk_w
    rw [ho 17 (by omega), ho 15 (by omega), ho 16 (by omega), ho 26 (by omega)]
  intro m
  induction m with
  | zero =>
    intro f e i hi hf he2 hri
    obtain ⟨f, rfl⟩ : ∃ g, f = g + 1 := ⟨f - 1, by omega⟩
    obtain ⟨e, rfl⟩ : ∃ g, e = g + 1 := ⟨e - 1, by omega⟩
    obtain ⟨w2, e1, b1, o1⟩ := fin f i 0 (by omega) (by omega) hri
    refine ⟨nI i, 0, w2, _, nf_a Bf, ?_, ?_, b1, o1⟩
    · show B_X6_read_45 _ _ _ _ _ _ _ _ _ _ _ _ _ = _
      unfold B_X6_read_45
      rw [i0_0]
      simp (disch := omega) only [nI_leI]
      rw [if_pos (by omega)]
      exact e1
    · show B_X7_read_62 _ _ _ _ _ _ _ _ _ _ _ _ _ _ _ _ = _
      unfold B_X7_read_62
      simp (disch := omega) only [nI_leI]
      rw [if_pos (by omega)]
  | succ m ih =>
    intro f e i hi hf he2 hri
    obtain ⟨f, rfl⟩ : ∃ g, f = g + 1 + 1 := ⟨f - 2, by omega⟩
    obtain ⟨e, rfl⟩ : ∃ g, e = g + 3 + 1 := ⟨e - 4, by omega⟩
    obtain ⟨r1, r2, r3, r4⟩ := rf_77 (k62 := M_X7_read_62 (nI pe) L Z C (e + 3)) (P := nI pe) (torn := torn) (lane := nI l) (F := F) (N := nI n) (W := nI i) (L := L) (Z := Z) (C := C) (st := nf_a (wr_n S (rp_n F (sf 0).2.2) (rv_n F (sf 0).2.2) i)) (bf := nf_a Bf) (k := 0) (i := i) (f := e) (by omega) (by omega)
    have er : M_X7_read_62 (nI pe) L Z C (e + 3 + 1) torn (nf_a (wr_n S (rp_n F (sf 0).2.2) (rv_n F (sf 0).2.2) i)) (nf_a Bf) (nI 0) (nI l) F (nI n) 0 (nI i) (nI i) = M_X7_read_77 (M_X7_read_62 (nI pe) L Z C (e + 3)) (nI pe) L Z C (e + 3) torn (nf_a (wr_n S (rp_n F (sf 0).2.2) (rv_n F (sf 0).2.2) i)) (nf_a Bf) (nI 0) (nI l) F (nI n) 0 (nI i) (nI i) 0 := by
      show B_X7_read_62 _ _ _ _ _ _ _ _ _ _ _ _ _ _ _ _ = _
      unfold B_X7_read_62
      simp (disch := omega) only [nI_leI]
      rw [if_neg (by omega)]
      simp only [if_true]
    have e2 : F + 2 * nI i = F + nI (2 * i) := by rw [show (2 : Int32) = nI 2 from rfl, pk_mul]
    have e21 : F + nI (2 * i) + 1 = F + nI (2 * i + 1) := by rw [Int32.add_assoc, nI_1]
    have ec : M_X6_read_45 (sf 0) (sf 1) (sf 2) (sf 3) (f + 1 + 1) torn (mk_w pe S he sp K G B R) (nI l) F (nI n) 0 (nI i) = (M_X2_isOther (sf 0) (nI l)).bind (fun u68 => if u68 = 0 then ((M_X2_faultAt (sf 0) (F + nI (2 * i)) (F + nI (2 * i + 1))).bind (fun u86 => B_X6_read_89 (M_X6_read_45 (sf 0) (sf 1) (sf 2) (sf 3) (f + 1)) (sf 0) (sf 1) (sf 2) (sf 3) (f + 1) torn (mk_w pe S he sp K G B R) (nI l) F (nI n) (nI i) (F + nI (2 * i)) u86)) else (B_X6_read_89 (M_X6_read_45 (sf 0) (sf 1) (sf 2) (sf 3) (f + 1)) (sf 0) (sf 1) (sf 2) (sf 3) (f + 1) torn (mk_w pe S he sp K G B R) (nI l) F (nI n) (nI i) (F + nI (2 * i)) 3)) := by
      show B_X6_read_45 _ _ _ _ _ _ _ _ _ _ _ _ _ = _
      unfold B_X6_read_45
      rw [i0_0, e2, nm_s, e21]
      simp (disch := omega) only [nI_leI]
      rw [if_neg (by omega)]
    -- a fault was found
    have flt : ∀ fd : Int32, ¬ fd = 0 → ∃ w2 S2, B_X6_read_89 (M_X6_read_45 (sf 0) (sf 1) (sf 2) (sf 3) (f + 1)) (sf 0) (sf 1) (sf 2) (sf 3) (f + 1) torn (mk_w pe S he sp K G B R) (nI l) F (nI n) (nI i) (F + nI (2 * i)) fd = some (nI i, fd, w2) ∧ M_X7_read_62 (nI pe) L Z C (e + 3) torn (nf_a (wr_n S (rp_n F (sf 0).2.2) (rv_n F (sf 0).2.2) i)) (nf_a Bf) (nI 0) (nI l) F (nI n) fd (nI i) (nI i + 1) = some (nI i, fd, nf_a S2, nf_a Bf) ∧ bk_s pe S2 w2 v ∧ ∀ q, 46 ≤ q → S2 q = S q := by
      intro fd hfd
      obtain ⟨w2, e1, b1, o1⟩ := fin f i fd (by omega) (by omega) hri
      refine ⟨w2, _, ?_, ?_, b1, o1⟩
      · unfold B_X6_read_89 B_X6_read_134
        rw [if_neg hfd]
        show B_X6_read_45 _ _ _ _ _ _ _ _ _ _ _ _ _ = _
        unfold B_X6_read_45
        rw [if_neg hfd]
        exact e1
      · show B_X7_read_62 _ _ _ _ _ _ _ _ _ _ _ _ _ _ _ _ = _
        unfold B_X7_read_62
        rw [if_neg hfd]
        split <;> rfl
    rw [er, ec]
    rcases hs 0 (by omega) with ⟨hl4, hs1⟩ | ⟨l9, n9, a1, a2, a3, a4, a5, a6, a7⟩
    · rw [r1 hl4]
      obtain ⟨w2, S2, f1, f2, f3, f4⟩ := flt 1 (by decide)
      refine ⟨_, _, w2, S2, _, ?_, f2, f3, f4⟩
      unfold M_X2_isOther B_X2_isOther_0 M_X2_faultAt B_X2_faultAt_0
      rw [if_pos hs1, if_pos hs1]
      simp only [bn_s, i0_0]
      exact f1
    · have nl : ¬ L 0 = -4 := by rw [a3]; exact n4_ne (by omega)
      have ns : ¬ (sf 0).1 = -1 := by
        rw [a4]
        intro e
        have e2 := congrArg Int32.toInt e
        rw [nI_toInt (by omega)] at e2
        have e3 : (-1 : Int32).toInt = -1 := by decide
        omega
      unfold M_X2_isOther B_X2_isOther_0
      rw [if_neg ns]
      by_cases cl : (sf 0).1 = nI l
      · have cl2 : L 0 = nI l := by rw [a3, ← a4]; exact cl
        rw [if_pos cl]
        simp only [bn_s, i0_0]
        unfold M_X2_faultAt B_X2_faultAt_0
        rw [if_neg ns, a6]
        rcases ix_c F (m := 2 * i) (n := n9) (by omega) (by omega) with ⟨q, hq, eq1, eq2, eq3⟩ | ⟨eq3, eq4⟩
        · rcases ix_c F (m := 2 * i + 1) (n := n9) (by omega) (by omega) with ⟨q2, hq2, fq1, fq2, fq3⟩ | ⟨fq3, fq4⟩
          · rw [eq3]
            simp only [bn_s, i1_0]
            rw [fq3]
            simp only [bn_s, i1_0]
            rw [r4 n9 a2 a5 nl cl2 (by omega)]
            have hq3 : q2 = q + 1 := by omega
            subst hq3
            have erq : rq_n F i = q := by unfold rq_n; rw [eq1, nI_clamp (by omega)]
            have ecell : ((40 * nI 0) + F) + (2 * nI i) = nI (40 * 0 + q) := by
              rw [Int32.add_assoc, e2, eq1, show (40 : Int32) = nI 40 from rfl, pk_mul, nI_add]
            unfold B_X6_read_89 B_X7_read_164
            rw [i0_0, i0_0, ecell, eq1]
            simp (disch := omega) only [gi_k, nI_clamp, nI_1, nm_s]
            rw [a7 q (by omega), a7 (q + 1) (by omega), ← Nat.add_assoc]
            rcases al_c (pe := pe) (C (40 * 0 + q)) (C (40 * 0 + q + 1)) h5 (wr_n S (rp_n F (sf 0).2.2) (rv_n F (sf 0).2.2) i) with ⟨p, gg, hp, ea, hg, eb, c1, c2⟩ | ⟨c1, c2⟩
            · rw [c1 _ rfl, c2]
              simp only [bn_s, i1_0]
              have gi := (wr_g (S := S) g i hri).2.2.2.2.2.1 p hp
              rw [if_pos (nI_pos' (by omega))]
              unfold B_X6_read_134 B_X7_read_245
              have erp : rp_n F (sf 0).2.2 i = p := by unfold rp_n; rw [erq, a7 q (by omega), ea, nI_clamp (by omega)]
              have erv : rv_n F (sf 0).2.2 i = gg := by unfold rv_n; rw [erq, a7 (q + 1) (by omega), ← Nat.add_assoc, eb, nI_clamp (by omega)]
              have hri2 : ri_p pe F (sf 0).2.2 (i + 1) := by
                intro j hj
                by_cases ej : j = i
                · subst ej
                  rw [erq, erp, erv]
                  refine ⟨eq1, by omega, ?_, ?_, hp, hg⟩
                  · rw [a7 q (by omega), ea]
                  · rw [a7 (q + 1) (by omega), ← Nat.add_assoc, eb]
                · exact hri j (by omega)
              have ihh := ih (f + 1) (e + 3) (i + 1) (by omega) (by omega) (by omega) hri2
              rw [wr_n, erp, erv] at ihh
              rw [nI_1]
              exact ihh
            · rw [c1 _ rfl, c2]
              simp only [bn_s, i0_0]
              rw [if_neg (show ¬ (0 : Int32) ≤ -1 by decide)]
              rw [show M_X7_read_209 (nI pe) L Z C e torn (nf_a (wr_n S (rp_n F (sf 0).2.2) (rv_n F (sf 0).2.2) i)) (nf_a Bf) (nI i) 0 = _ from rf_rs (I := nI i) 46 e 0 (wr_n S (rp_n F (sf 0).2.2) (rv_n F (sf 0).2.2) i) (by omega) (by omega)]
              refine ⟨_, _, _, _, _, rfl, rfl, bk_cg (fun q2 h2 => (if_pos (by omega)).trans (hB q2 h2)) h, fun q2 h2 => (if_neg (by omega)).trans (wr_o h5 i hri q2 (by omega))⟩
          · rw [eq3]
            simp only [bn_s, i1_0]
            rw [fq3]
            simp only [bn_s, i0_0]
            rw [r3 n9 a2 a5 nl cl2 (by omega)]
            obtain ⟨w2, S2, f1, f2, f3, f4⟩ := flt 2 (by decide)
            exact ⟨_, _, w2, S2, _, f1, f2, f3, f4⟩
        · rw [eq3]
          simp only [bn_s, i0_0]
          rw [r3 n9 a2 a5 nl cl2 (by omega)]
          obtain ⟨w2, S2, f1, f2, f3, f4⟩ := flt 2 (by decide)
          exact ⟨_, _, w2, S2, _, f1, f2, f3, f4⟩
      · have cl2 : ¬ L 0 = nI l := by rw [a3, ← a4]; exact cl
        rw [if_neg cl]
        simp only [bn_s, i1_0]
        rw [r2 nl cl2]
        obtain ⟨w2, S2, f1, f2, f3, f4⟩ := flt 3 (by decide)
        exact ⟨_, _, w2, S2, _, f1, f2, f3, f4⟩
theorem rw_1 {sf : Nat → s_S} {torn F fd : Int32} {he sp m : Nat} {K B R : Nat → Int32} (g : gd_s pe S) (hi : ri_p pe F (sf 1).2.2 m) (hm : m ≤ 20) : ∀ (k f j : Nat) (G : Nat → Int32), j + k = m → k < f → pt_w pe (wr_n S (rp_n F (sf 1).2.2) (rv_n F (sf 1).2.2) j) K G B R → ∃ G2 : Nat → Int32, M_X6_read_140a (sf 0) (sf 1) (sf 2) (sf 3) f torn (mk_w pe S he sp K G B R) F fd (nI m) (nI j) = some (nI m, fd, mk_w pe S he sp K G2 B R) ∧ pt_w pe (wr_n S (rp_n F (sf 1).2.2) (rv_n F (sf 1).2.2) m) K G2 B R := by
  have h5 := g.1
  intro k
  induction k with
  | zero =>
    intro f j G hj hf pt
    obtain ⟨f, rfl⟩ : ∃ g, f = g + 1 := ⟨f - 1, by omega⟩
    obtain rfl : j = m := by omega
    refine ⟨G, ?_, pt⟩
    show B_X6_read_140a _ _ _ _ _ _ _ _ _ _ _ _ = _
    simp (disch := omega) only [B_X6_read_140a, nI_leI]
    rw [if_pos (by omega)]
  | succ k ih =>
    intro f j G hj hf pt
    obtain ⟨f, rfl⟩ : ∃ g, f = g + 1 := ⟨f - 1, by omega⟩
    obtain ⟨a1, a2, a3, a4, a5, a6⟩ := hi j (by omega)
    have gj := wr_g (S := S) g j (fun q hq => hi q (by omega))
    obtain ⟨G2, e, p2⟩ := ih f (j + 1) (upd G (rp_n F (sf 1).2.2 j) (nI (rv_n F (sf 1).2.2 j))) (by omega) (by omega) (pt_G gj a5 pt)
    refine ⟨G2, ?_, p2⟩
    rw [← e]
    show B_X6_read_140a _ _ _ _ _ _ _ _ _ _ _ _ = _
    unfold B_X6_read_140a
    rw [show F + 2 * nI j = nI (rq_n F j) by rw [show (2 : Int32) = nI 2 from rfl, pk_mul]; exact a1]
    simp (disch := omega) only [nI_leI, nI_1, gi_k, nI_clamp, nm_s, a3, a4]
    rw [if_neg (by omega)]
theorem rd_1 {sf : Nat → s_S} {L Z C : Nat → Int32} {torn F : Int32} {l n he sp : Nat} {Bf : Nat → Nat} {K G B R : Nat → Int32} (hs : sr_4 L Z C sf) (h : bk_s pe S (mk_w pe S he sp K G B R) v) (pt : pt_w pe S K G B R) (hl : l ≤ 2) (hn : n ≤ 20) (hB : ∀ j, j < 46 → Bf j = S j) : ∀ (m f e i : Nat), i + m = n → m + 100 < f → 4 * m + 100 < e → ri_p pe F (sf 1).2.2 i →
    ∃ r tr w2 S2 bf2, M_X6_read_45a (sf 0) (sf 1) (sf 2) (sf 3) f torn (mk_w pe S he sp K G B R) (nI l) F (nI n) 0 (nI i) = some (r, tr, w2) ∧ M_X7_read_62 (nI pe) L Z C e torn (nf_a (wr_n S (rp_n F (sf 1).2.2) (rv_n F (sf 1).2.2) i)) (nf_a Bf) (nI 1) (nI l) F (nI n) 0 (nI i) (nI i) = some (r, tr, nf_a S2, bf2) ∧ bk_s pe S2 w2 v ∧ ∀ q, 46 ≤ q → S2 q = S q := by
  have g := h.2.1
  have h5 := g.1
  have g26 := h.2.2.1
  have gv := h.2.2.2
  -- the end, with what was found
  have fin : ∀ (f i : Nat) (fd : Int32), 50 < f → i ≤ n → ri_p pe F (sf 1).2.2 i → ∃ w2, B_X6_read_137a (sf 0) (sf 1) (sf 2) (sf 3) f torn (mk_w pe S he sp K G B R) F fd (nI i) = some (nI i, fd, w2) ∧ bk_s pe (wr_n S (rp_n F (sf 1).2.2) (rv_n F (sf 1).2.2) i) w2 v ∧ ∀ q, 46 ≤ q → wr_n S (rp_n F (sf 1).2.2) (rv_n F (sf 1).2.2) i q = S q := by
    intro f i fd hf hi hri
    obtain ⟨G2, e2, p2⟩ := rw_1 (torn := torn) (fd := fd) (he := he) (sp := sp) (K := K) (B := B) (R := R) g hri (by omega) i f 0 G (by omega) (by omega) pt
    have ho := wr_o (S := S) h5 i hri
    refine ⟨_, e2, ⟨⟨he, sp, K, G2, B, R, ?_, p2⟩, wr_g g i hri, by rw [ho 26 (by omega)]; exact g26, sg_cg (fun q h1 h2 => ho q (by omega)) gv⟩, fun q hq => ho q (by omega)⟩
    unfold mk_w
    rw [ho 17 (by omega), ho 15 (by omega), ho 16 (by omega), ho 26 (by omega)]
  intro m
  induction m with
  | zero =>
    intro f e i hi hf he2 hri
    obtain ⟨f, rfl⟩ : ∃ g, f = g + 1 := ⟨f - 1, by omega⟩
    obtain ⟨e, rfl⟩ : ∃ g, e = g + 1 := ⟨e - 1, by omega⟩
    obtain ⟨w2, e1, b1, o1⟩ := fin f i 0 (by omega) (by omega) hri
    refine ⟨nI i, 0, w2, _, nf_a Bf, ?_, ?_, b1, o1⟩
    · show B_X6_read_45a _ _ _ _ _ _ _ _ _ _ _ _ _ = _
      unfold B_X6_read_45a
      rw [i0_0]
      simp (disch := omega) only [nI_leI]
      rw [if_pos (by omega)]
      exact e1
    · show B_X7_read_62 _ _ _ _ _ _ _ _ _ _ _ _ _ _ _ _ = _
      unfold B_X7_read_62
      simp (disch := omega) only [nI_leI]
      rw [if_pos (by omega)]
  | succ m ih =>
    intro f e i hi hf he2 hri
    obtain ⟨f, rfl⟩ : ∃ g, f = g + 1 + 1 := ⟨f - 2, by omega⟩
    obtain ⟨e, rfl⟩ : ∃ g, e = g + 3 + 1 := ⟨e - 4, by omega⟩
    obtain ⟨r1, r2, r3, r4⟩ := rf_77 (k62 := M_X7_read_62 (nI pe) L Z C (e + 3)) (P := nI pe) (torn := torn) (lane := nI l) (F := F) (N := nI n) (W := nI i) (L := L) (Z := Z) (C := C) (st := nf_a (wr_n S (rp_n F (sf 1).2.2) (rv_n F (sf 1).2.2) i)) (bf := nf_a Bf) (k := 1) (i := i) (f := e) (by omega) (by omega)
    have er : M_X7_read_62 (nI pe) L Z C (e + 3 + 1) torn (nf_a (wr_n S (rp_n F (sf 1).2.2) (rv_n F (sf 1).2.2) i)) (nf_a Bf) (nI 1) (nI l) F (nI n) 0 (nI i) (nI i) = M_X7_read_77 (M_X7_read_62 (nI pe) L Z C (e + 3)) (nI pe) L Z C (e + 3) torn (nf_a (wr_n S (rp_n F (sf 1).2.2) (rv_n F (sf 1).2.2) i)) (nf_a Bf) (nI 1) (nI l) F (nI n) 0 (nI i) (nI i) 0 := by
      show B_X7_read_62 _ _ _ _ _ _ _ _ _ _ _ _ _ _ _ _ = _
      unfold B_X7_read_62
      simp (disch := omega) only [nI_leI]
      rw [if_neg (by omega)]
      simp only [if_true]
    have e2 : F + 2 * nI i = F + nI (2 * i) := by rw [show (2 : Int32) = nI 2 from rfl, pk_mul]
    have e21 : F + nI (2 * i) + 1 = F + nI (2 * i + 1) := by rw [Int32.add_assoc, nI_1]
    have ec : M_X6_read_45a (sf 0) (sf 1) (sf 2) (sf 3) (f + 1 + 1) torn (mk_w pe S he sp K G B R) (nI l) F (nI n) 0 (nI i) = (M_X2_isOther (sf 1) (nI l)).bind (fun u68 => if u68 = 0 then ((M_X2_faultAt (sf 1) (F + nI (2 * i)) (F + nI (2 * i + 1))).bind (fun u86 => B_X6_read_89a (M_X6_read_45a (sf 0) (sf 1) (sf 2) (sf 3) (f + 1)) (sf 0) (sf 1) (sf 2) (sf 3) (f + 1) torn (mk_w pe S he sp K G B R) (nI l) F (nI n) (nI i) (F + nI (2 * i)) u86)) else (B_X6_read_89a (M_X6_read_45a (sf 0) (sf 1) (sf 2) (sf 3) (f + 1)) (sf 0) (sf 1) (sf 2) (sf 3) (f + 1) torn (mk_w pe S he sp K G B R) (nI l) F (nI n) (nI i) (F + nI (2 * i)) 3)) := by
      show B_X6_read_45a _ _ _ _ _ _ _ _ _ _ _ _ _ = _
      unfold B_X6_read_45a
      rw [i0_0, e2, nm_s, e21]
      simp (disch := omega) only [nI_leI]
      rw [if_neg (by omega)]
    -- a fault was found
    have flt : ∀ fd : Int32, ¬ fd = 0 → ∃ w2 S2, B_X6_read_89a (M_X6_read_45a (sf 0) (sf 1) (sf 2) (sf 3) (f + 1)) (sf 0) (sf 1) (sf 2) (sf 3) (f + 1) torn (mk_w pe S he sp K G B R) (nI l) F (nI n) (nI i) (F + nI (2 * i)) fd = some (nI i, fd, w2) ∧ M_X7_read_62 (nI pe) L Z C (e + 3) torn (nf_a (wr_n S (rp_n F (sf 1).2.2) (rv_n F (sf 1).2.2) i)) (nf_a Bf) (nI 1) (nI l) F (nI n) fd (nI i) (nI i + 1) = some (nI i, fd, nf_a S2, nf_a Bf) ∧ bk_s pe S2 w2 v ∧ ∀ q, 46 ≤ q → S2 q = S q := by
      intro fd hfd
      obtain ⟨w2, e1, b1, o1⟩ := fin f i fd (by omega) (by omega) hri
      refine ⟨w2, _, ?_, ?_, b1, o1⟩
      · unfold B_X6_read_89a B_X6_read_134a
        rw [if_neg hfd]
        show B_X6_read_45a _ _ _ _ _ _ _ _ _ _ _ _ _ = _
        unfold B_X6_read_45a
        rw [if_neg hfd]
        exact e1
      · show B_X7_read_62 _ _ _ _ _ _ _ _ _ _ _ _ _ _ _ _ = _
        unfold B_X7_read_62
        rw [if_neg hfd]
        split <;> rfl
    rw [er, ec]
    rcases hs 1 (by omega) with ⟨hl4, hs1⟩ | ⟨l9, n9, a1, a2, a3, a4, a5, a6, a7⟩
    · rw [r1 hl4]
      obtain ⟨w2, S2, f1, f2, f3, f4⟩ := flt 1 (by decide)
      refine ⟨_, _, w2, S2, _, ?_, f2, f3, f4⟩
      unfold M_X2_isOther B_X2_isOther_0 M_X2_faultAt B_X2_faultAt_0
      rw [if_pos hs1, if_pos hs1]
      simp only [bn_s, i0_0]
      exact f1
    · have nl : ¬ L 1 = -4 := by rw [a3]; exact n4_ne (by omega)
      have ns : ¬ (sf 1).1 = -1 := by
        rw [a4]
        intro e
        have e2 := congrArg Int32.toInt e
        rw [nI_toInt (by omega)] at e2
        have e3 : (-1 : Int32).toInt = -1 := by decide
        omega
      unfold M_X2_isOther B_X2_isOther_0
      rw [if_neg ns]
      by_cases cl : (sf 1).1 = nI l
      · have cl2 : L 1 = nI l := by rw [a3, ← a4]; exact cl
        rw [if_pos cl]
        simp only [bn_s, i0_0]
        unfold M_X2_faultAt B_X2_faultAt_0
        rw [if_neg ns, a6]
        rcases ix_c F (m := 2 * i) (n := n9) (by omega) (by omega) with ⟨q, hq, eq1, eq2, eq3⟩ | ⟨eq3, eq4⟩
        · rcases ix_c F (m := 2 * i + 1) (n := n9) (by omega) (by omega) with ⟨q2, hq2, fq1, fq2, fq3⟩ | ⟨fq3, fq4⟩
          · rw [eq3]
            simp only [bn_s, i1_0]
            rw [fq3]
            simp only [bn_s, i1_0]
            rw [r4 n9 a2 a5 nl cl2 (by omega)]
            have hq3 : q2 = q + 1 := by omega
            subst hq3
            have erq : rq_n F i = q := by unfold rq_n; rw [eq1, nI_clamp (by omega)]
            have ecell : ((40 * nI 1) + F) + (2 * nI i) = nI (40 * 1 + q) := by
              rw [Int32.add_assoc, e2, eq1, show (40 : Int32) = nI 40 from rfl, pk_mul, nI_add]
            unfold B_X6_read_89a B_X7_read_164
            rw [i0_0, i0_0, ecell, eq1]
            simp (disch := omega) only [gi_k, nI_clamp, nI_1, nm_s]
            rw [a7 q (by omega), a7 (q + 1) (by omega), ← Nat.add_assoc]
            rcases al_c (pe := pe) (C (40 * 1 + q)) (C (40 * 1 + q + 1)) h5 (wr_n S (rp_n F (sf 1).2.2) (rv_n F (sf 1).2.2) i) with ⟨p, gg, hp, ea, hg, eb, c1, c2⟩ | ⟨c1, c2⟩
            · rw [c1 _ rfl, c2]
              simp only [bn_s, i1_0]
              have gi := (wr_g (S := S) g i hri).2.2.2.2.2.1 p hp
              rw [if_pos (nI_pos' (by omega))]
              unfold B_X6_read_134a B_X7_read_245
              have erp : rp_n F (sf 1).2.2 i = p := by unfold rp_n; rw [erq, a7 q (by omega), ea, nI_clamp (by omega)]
              have erv : rv_n F (sf 1).2.2 i = gg := by unfold rv_n; rw [erq, a7 (q + 1) (by omega), ← Nat.add_assoc, eb, nI_clamp (by omega)]
              have hri2 : ri_p pe F (sf 1).2.2 (i + 1) := by
                intro j hj
                by_cases ej : j = i
                · subst ej
                  rw [erq, erp, erv]
                  refine ⟨eq1, by omega, ?_, ?_, hp, hg⟩
                  · rw [a7 q (by omega), ea]
                  · rw [a7 (q + 1) (by omega), ← Nat.add_assoc, eb]
                · exact hri j (by omega)
              have ihh := ih (f + 1) (e + 3) (i + 1) (by omega) (by omega) (by omega) hri2
              rw [wr_n, erp, erv] at ihh
              rw [nI_1]
              exact ihh
            · rw [c1 _ rfl, c2]
              simp only [bn_s, i0_0]
              rw [if_neg (show ¬ (0 : Int32) ≤ -1 by decide)]
              rw [show M_X7_read_209 (nI pe) L Z C e torn (nf_a (wr_n S (rp_n F (sf 1).2.2) (rv_n F (sf 1).2.2) i)) (nf_a Bf) (nI i) 0 = _ from rf_rs (I := nI i) 46 e 0 (wr_n S (rp_n F (sf 1).2.2) (rv_n F (sf 1).2.2) i) (by omega) (by omega)]
              refine ⟨_, _, _, _, _, rfl, rfl, bk_cg (fun q2 h2 => (if_pos (by omega)).trans (hB q2 h2)) h, fun q2 h2 => (if_neg (by omega)).trans (wr_o h5 i hri q2 (by omega))⟩
          · rw [eq3]
            simp only [bn_s, i1_0]
            rw [fq3]
            simp only [bn_s, i0_0]
            rw [r3 n9 a2 a5 nl cl2 (by omega)]
            obtain ⟨w2, S2, f1, f2, f3, f4⟩ := flt 2 (by decide)
            exact ⟨_, _, w2, S2, _, f1, f2, f3, f4⟩
        · rw [eq3]
          simp only [bn_s, i0_0]
          rw [r3 n9 a2 a5 nl cl2 (by omega)]
          obtain ⟨w2, S2, f1, f2, f3, f4⟩ := flt 2 (by decide)
          exact ⟨_, _, w2, S2, _, f1, f2, f3, f4⟩
      · have cl2 : ¬ L 1 = nI l := by rw [a3, ← a4]; exact cl
        rw [if_neg cl]
        simp only [bn_s, i1_0]
        rw [r2 nl cl2]
        obtain ⟨w2, S2, f1, f2, f3, f4⟩ := flt 3 (by decide)
        exact ⟨_, _, w2, S2, _, f1, f2, f3, f4⟩
theorem rw_2 {sf : Nat → s_S} {torn F fd : Int32} {he sp m : Nat} {K B R : Nat → Int32} (g : gd_s pe S) (hi : ri_p pe F (sf 2).2.2 m) (hm : m ≤ 20) : ∀ (k f j : Nat) (G : Nat → Int32), j + k = m → k < f → pt_w pe (wr_n S (rp_n F (sf 2).2.2) (rv_n F (sf 2).2.2) j) K G B R → ∃ G2 : Nat → Int32, M_X6_read_140b (sf 0) (sf 1) (sf 2) (sf 3) f torn (mk_w pe S he sp K G B R) F fd (nI m) (nI j) = some (nI m, fd, mk_w pe S he sp K G2 B R) ∧ pt_w pe (wr_n S (rp_n F (sf 2).2.2) (rv_n F (sf 2).2.2) m) K G2 B R := by
  have h5 := g.1
  intro k
  induction k with
  | zero =>
    intro f j G hj hf pt
    obtain ⟨f, rfl⟩ : ∃ g, f = g + 1 := ⟨f - 1, by omega⟩
    obtain rfl : j = m := by omega
    refine ⟨G, ?_, pt⟩
    show B_X6_read_140b _ _ _ _ _ _ _ _ _ _ _ _ = _
    simp (disch := omega) only [B_X6_read_140b, nI_leI]
    rw [if_pos (by omega)]
  | succ k ih =>
    intro f j G hj hf pt
    obtain ⟨f, rfl⟩ : ∃ g, f = g + 1 := ⟨f - 1, by omega⟩
    obtain ⟨a1, a2, a3, a4, a5, a6⟩ := hi j (by omega)
    have gj := wr_g (S := S) g j (fun q hq => hi q (by omega))
    obtain ⟨G2, e, p2⟩ := ih f (j + 1) (upd G (rp_n F (sf 2).2.2 j) (nI (rv_n F (sf 2).2.2 j))) (by omega) (by omega) (pt_G gj a5 pt)
    refine ⟨G2, ?_, p2⟩
    rw [← e]
    show B_X6_read_140b _ _ _ _ _ _ _ _ _ _ _ _ = _
    unfold B_X6_read_140b
    rw [show F + 2 * nI j = nI (rq_n F j) by rw [show (2 : Int32) = nI 2 from rfl, pk_mul]; exact a1]
    simp (disch := omega) only [nI_leI, nI_1, gi_k, nI_clamp, nm_s, a3, a4]
    rw [if_neg (by omega)]
theorem rd_2 {sf : Nat → s_S} {L Z C : Nat → Int32} {torn F : Int32} {l n he sp : Nat} {Bf : Nat → Nat} {K G B R : Nat → Int32} (hs : sr_4 L Z C sf) (h : bk_s pe S (mk_w pe S he sp K G B R) v) (pt : pt_w pe S K G B R) (hl : l ≤ 2) (hn : n ≤ 20) (hB : ∀ j, j < 46 → Bf j = S j) : ∀ (m f e i : Nat), i + m = n → m + 100 < f → 4 * m + 100 < e → ri_p pe F (sf 2).2.2 i →
    ∃ r tr w2 S2 bf2, M_X6_read_45b (sf 0) (sf 1) (sf 2) (sf 3) f torn (mk_w pe S he sp K G B R) (nI l) F (nI n) 0 (nI i) = some (r, tr, w2) ∧ M_X7_read_62 (nI pe) L Z C e torn (nf_a (wr_n S (rp_n F (sf 2).2.2) (rv_n F (sf 2).2.2) i)) (nf_a Bf) (nI 2) (nI l) F (nI n) 0 (nI i) (nI i) = some (r, tr, nf_a S2, bf2) ∧ bk_s pe S2 w2 v ∧ ∀ q, 46 ≤ q → S2 q = S q := by
  have g := h.2.1
  have h5 := g.1
  have g26 := h.2.2.1
  have gv := h.2.2.2
  -- the end, with what was found
  have fin : ∀ (f i : Nat) (fd : Int32), 50 < f → i ≤ n → ri_p pe F (sf 2).2.2 i → ∃ w2, B_X6_read_137b (sf 0) (sf 1) (sf 2) (sf 3) f torn (mk_w pe S he sp K G B R) F fd (nI i) = some (nI i, fd, w2) ∧ bk_s pe (wr_n S (rp_n F (sf 2).2.2) (rv_n F (sf 2).2.2) i) w2 v ∧ ∀ q, 46 ≤ q → wr_n S (rp_n F (sf 2).2.2) (rv_n F (sf 2).2.2) i q = S q := by
    intro f i fd hf hi hri
    obtain ⟨G2, e2, p2⟩ := rw_2 (torn := torn) (fd := fd) (he := he) (sp := sp) (K := K) (B := B) (R := R) g hri (by omega) i f 0 G (by omega) (by omega) pt
    have ho := wr_o (S := S) h5 i hri
    refine ⟨_, e2, ⟨⟨he, sp, K, G2, B, R, ?_, p2⟩, wr_g g i hri, by rw [ho 26 (by omega)]; exact g26, sg_cg (fun q h1 h2 => ho q (by omega)) gv⟩, fun q hq => ho q (by omega)⟩
    unfold mk_w
    rw [ho 17 (by omega), ho 15 (by omega), ho 16 (by omega), ho 26 (by omega)]
  intro m
  induction m with
  | zero =>
    intro f e i hi hf he2 hri
    obtain ⟨f, rfl⟩ : ∃ g, f = g + 1 := ⟨f - 1, by omega⟩
    obtain ⟨e, rfl⟩ : ∃ g, e = g + 1 := ⟨e - 1, by omega⟩
    obtain ⟨w2, e1, b1, o1⟩ := fin f i 0 (by omega) (by omega) hri
    refine ⟨nI i, 0, w2, _, nf_a Bf, ?_, ?_, b1, o1⟩
    · show B_X6_read_45b _ _ _ _ _ _ _ _ _ _ _ _ _ = _
      unfold B_X6_read_45b
      rw [i0_0]
      simp (disch := omega) only [nI_leI]
      rw [if_pos (by omega)]
      exact e1
    · show B_X7_read_62 _ _ _ _ _ _ _ _ _ _ _ _ _ _ _ _ = _
      unfold B_X7_read_62
      simp (disch := omega) only [nI_leI]
      rw [if_pos (by omega)]
  | succ m ih =>
    intro f e i hi hf he2 hri
    obtain ⟨f, rfl⟩ : ∃ g, f = g + 1 + 1 := ⟨f - 2, by omega⟩
    obtain ⟨e, rfl⟩ : ∃ g, e = g + 3 + 1 := ⟨e - 4, by omega⟩
    obtain ⟨r1, r2, r3, r4⟩ := rf_77 (k62 := M_X7_read_62 (nI pe) L Z C (e + 3)) (P := nI pe) (torn := torn) (lane := nI l) (F := F) (N := nI n) (W := nI i) (L := L) (Z := Z) (C := C) (st := nf_a (wr_n S (rp_n F (sf 2).2.2) (rv_n F (sf 2).2.2) i)) (bf := nf_a Bf) (k := 2) (i := i) (f := e) (by omega) (by omega)
    have er : M_X7_read_62 (nI pe) L Z C (e + 3 + 1) torn (nf_a (wr_n S (rp_n F (sf 2).2.2) (rv_n F (sf 2).2.2) i)) (nf_a Bf) (nI 2) (nI l) F (nI n) 0 (nI i) (nI i) = M_X7_read_77 (M_X7_read_62 (nI pe) L Z C (e + 3)) (nI pe) L Z C (e + 3) torn (nf_a (wr_n S (rp_n F (sf 2).2.2) (rv_n F (sf 2).2.2) i)) (nf_a Bf) (nI 2) (nI l) F (nI n) 0 (nI i) (nI i) 0 := by
      show B_X7_read_62 _ _ _ _ _ _ _ _ _ _ _ _ _ _ _ _ = _
      unfold B_X7_read_62
      simp (disch := omega) only [nI_leI]
      rw [if_neg (by omega)]
      simp only [if_true]
    have e2 : F + 2 * nI i = F + nI (2 * i) := by rw [show (2 : Int32) = nI 2 from rfl, pk_mul]
    have e21 : F + nI (2 * i) + 1 = F + nI (2 * i + 1) := by rw [Int32.add_assoc, nI_1]
    have ec : M_X6_read_45b (sf 0) (sf 1) (sf 2) (sf 3) (f + 1 + 1) torn (mk_w pe S he sp K G B R) (nI l) F (nI n) 0 (nI i) = (M_X2_isOther (sf 2) (nI l)).bind (fun u68 => if u68 = 0 then ((M_X2_faultAt (sf 2) (F + nI (2 * i)) (F + nI (2 * i + 1))).bind (fun u86 => B_X6_read_89b (M_X6_read_45b (sf 0) (sf 1) (sf 2) (sf 3) (f + 1)) (sf 0) (sf 1) (sf 2) (sf 3) (f + 1) torn (mk_w pe S he sp K G B R) (nI l) F (nI n) (nI i) (F + nI (2 * i)) u86)) else (B_X6_read_89b (M_X6_read_45b (sf 0) (sf 1) (sf 2) (sf 3) (f + 1)) (sf 0) (sf 1) (sf 2) (sf 3) (f + 1) torn (mk_w pe S he sp K G B R) (nI l) F (nI n) (nI i) (F + nI (2 * i)) 3)) := by
      show B_X6_read_45b _ _ _ _ _ _ _ _ _ _ _ _ _ = _
      unfold B_X6_read_45b
      rw [i0_0, e2, nm_s, e21]
      simp (disch := omega) only [nI_leI]
      rw [if_neg (by omega)]
    -- a fault was found
    have flt : ∀ fd : Int32, ¬ fd = 0 → ∃ w2 S2, B_X6_read_89b (M_X6_read_45b (sf 0) (sf 1) (sf 2) (sf 3) (f + 1)) (sf 0) (sf 1) (sf 2) (sf 3) (f + 1) torn (mk_w pe S he sp K G B R) (nI l) F (nI n) (nI i) (F + nI (2 * i)) fd = some (nI i, fd, w2) ∧ M_X7_read_62 (nI pe) L Z C (e + 3) torn (nf_a (wr_n S (rp_n F (sf 2).2.2) (rv_n F (sf 2).2.2) i)) (nf_a Bf) (nI 2) (nI l) F (nI n) fd (nI i) (nI i + 1) = some (nI i, fd, nf_a S2, nf_a Bf) ∧ bk_s pe S2 w2 v ∧ ∀ q, 46 ≤ q → S2 q = S q := by
      intro fd hfd
      obtain ⟨w2, e1, b1, o1⟩ := fin f i fd (by omega) (by omega) hri
      refine ⟨w2, _, ?_, ?_, b1, o1⟩
      · unfold B_X6_read_89b B_X6_read_134b
        rw [if_neg hfd]
        show B_X6_read_45b _ _ _ _ _ _ _ _ _ _ _ _ _ = _
        unfold B_X6_read_45b
        rw [if_neg hfd]
        exact e1
      · show B_X7_read_62 _ _ _ _ _ _ _ _ _ _ _ _ _ _ _ _ = _
        unfold B_X7_read_62
        rw [if_neg hfd]
        split <;> rfl
    rw [er, ec]
    rcases hs 2 (by omega) with ⟨hl4, hs1⟩ | ⟨l9, n9, a1, a2, a3, a4, a5, a6, a7⟩
    · rw [r1 hl4]
      obtain ⟨w2, S2, f1, f2, f3, f4⟩ := flt 1 (by decide)
      refine ⟨_, _, w2, S2, _, ?_, f2, f3, f4⟩
      unfold M_X2_isOther B_X2_isOther_0 M_X2_faultAt B_X2_faultAt_0
      rw [if_pos hs1, if_pos hs1]
      simp only [bn_s, i0_0]
      exact f1
    · have nl : ¬ L 2 = -4 := by rw [a3]; exact n4_ne (by omega)
      have ns : ¬ (sf 2).1 = -1 := by
        rw [a4]
        intro e
        have e2 := congrArg Int32.toInt e
        rw [nI_toInt (by omega)] at e2
        have e3 : (-1 : Int32).toInt = -1 := by decide
        omega
      unfold M_X2_isOther B_X2_isOther_0
      rw [if_neg ns]
      by_cases cl : (sf 2).1 = nI l
      · have cl2 : L 2 = nI l := by rw [a3, ← a4]; exact cl
        rw [if_pos cl]
        simp only [bn_s, i0_0]
        unfold M_X2_faultAt B_X2_faultAt_0
        rw [if_neg ns, a6]
        rcases ix_c F (m := 2 * i) (n := n9) (by omega) (by omega) with ⟨q, hq, eq1, eq2, eq3⟩ | ⟨eq3, eq4⟩
        · rcases ix_c F (m := 2 * i + 1) (n := n9) (by omega) (by omega) with ⟨q2, hq2, fq1, fq2, fq3⟩ | ⟨fq3, fq4⟩
          · rw [eq3]
            simp only [bn_s, i1_0]
            rw [fq3]
            simp only [bn_s, i1_0]
            rw [r4 n9 a2 a5 nl cl2 (by omega)]
            have hq3 : q2 = q + 1 := by omega
            subst hq3
            have erq : rq_n F i = q := by unfold rq_n; rw [eq1, nI_clamp (by omega)]
            have ecell : ((40 * nI 2) + F) + (2 * nI i) = nI (40 * 2 + q) := by
              rw [Int32.add_assoc, e2, eq1, show (40 : Int32) = nI 40 from rfl, pk_mul, nI_add]
            unfold B_X6_read_89b B_X7_read_164
            rw [i0_0, i0_0, ecell, eq1]
            simp (disch := omega) only [gi_k, nI_clamp, nI_1, nm_s]
            rw [a7 q (by omega), a7 (q + 1) (by omega), ← Nat.add_assoc]
            rcases al_c (pe := pe) (C (40 * 2 + q)) (C (40 * 2 + q + 1)) h5 (wr_n S (rp_n F (sf 2).2.2) (rv_n F (sf 2).2.2) i) with ⟨p, gg, hp, ea, hg, eb, c1, c2⟩ | ⟨c1, c2⟩
            · rw [c1 _ rfl, c2]
              simp only [bn_s, i1_0]
              have gi := (wr_g (S := S) g i hri).2.2.2.2.2.1 p hp
              rw [if_pos (nI_pos' (by omega))]
              unfold B_X6_read_134b B_X7_read_245
              have erp : rp_n F (sf 2).2.2 i = p := by unfold rp_n; rw [erq, a7 q (by omega), ea, nI_clamp (by omega)]
              have erv : rv_n F (sf 2).2.2 i = gg := by unfold rv_n; rw [erq, a7 (q + 1) (by omega), ← Nat.add_assoc, eb, nI_clamp (by omega)]
              have hri2 : ri_p pe F (sf 2).2.2 (i + 1) := by
                intro j hj
                by_cases ej : j = i
                · subst ej
                  rw [erq, erp, erv]
                  refine ⟨eq1, by omega, ?_, ?_, hp, hg⟩
                  · rw [a7 q (by omega), ea]
                  · rw [a7 (q + 1) (by omega), ← Nat.add_assoc, eb]
                · exact hri j (by omega)
              have ihh := ih (f + 1) (e + 3) (i + 1) (by omega) (by omega) (by omega) hri2
              rw [wr_n, erp, erv] at ihh
              rw [nI_1]
              exact ihh
            · rw [c1 _ rfl, c2]
              simp only [bn_s, i0_0]
              rw [if_neg (show ¬ (0 : Int32) ≤ -1 by decide)]
              rw [show M_X7_read_209 (nI pe) L Z C e torn (nf_a (wr_n S (rp_n F (sf 2).2.2) (rv_n F (sf 2).2.2) i)) (nf_a Bf) (nI i) 0 = _ from rf_rs (I := nI i) 46 e 0 (wr_n S (rp_n F (sf 2).2.2) (rv_n F (sf 2).2.2) i) (by omega) (by omega)]
              refine ⟨_, _, _, _, _, rfl, rfl, bk_cg (fun q2 h2 => (if_pos (by omega)).trans (hB q2 h2)) h, fun q2 h2 => (if_neg (by omega)).trans (wr_o h5 i hri q2 (by omega))⟩
          · rw [eq3]
            simp only [bn_s, i1_0]
            rw [fq3]
            simp only [bn_s, i0_0]
            rw [r3 n9 a2 a5 nl cl2 (by omega)]
            obtain ⟨w2, S2, f1, f2, f3, f4⟩ := flt 2 (by decide)
            exact ⟨_, _, w2, S2, _, f1, f2, f3, f4⟩
        · rw [eq3]
          simp only [bn_s, i0_0]
          rw [r3 n9 a2 a5 nl cl2 (by omega)]
          obtain ⟨w2, S2, f1, f2, f3, f4⟩ := flt 2 (by decide)
          exact ⟨_, _, w2, S2, _, f1, f2, f3, f4⟩
      · have cl2 : ¬ L 2 = nI l := by rw [a3, ← a4]; exact cl
        rw [if_neg cl]
        simp only [bn_s, i1_0]
        rw [r2 nl cl2]
        obtain ⟨w2, S2, f1, f2, f3, f4⟩ := flt 3 (by decide)
        exact ⟨_, _, w2, S2, _, f1, f2, f3, f4⟩
theorem rw_3 {sf : Nat → s_S} {torn F fd : Int32} {he sp m : Nat} {K B R : Nat → Int32} (g : gd_s pe S) (hi : ri_p pe F (sf 3).2.2 m) (hm : m ≤ 20) : ∀ (k f j : Nat) (G : Nat → Int32), j + k = m → k < f → pt_w pe (wr_n S (rp_n F (sf 3).2.2) (rv_n F (sf 3).2.2) j) K G B R → ∃ G2 : Nat → Int32, M_X6_read_140c (sf 0) (sf 1) (sf 2) (sf 3) f torn (mk_w pe S he sp K G B R) F fd (nI m) (nI j) = some (nI m, fd, mk_w pe S he sp K G2 B R) ∧ pt_w pe (wr_n S (rp_n F (sf 3).2.2) (rv_n F (sf 3).2.2) m) K G2 B R := by
  have h5 := g.1
  intro k
  induction k with
  | zero =>
    intro f j G hj hf pt
    obtain ⟨f, rfl⟩ : ∃ g, f = g + 1 := ⟨f - 1, by omega⟩
    obtain rfl : j = m := by omega
    refine ⟨G, ?_, pt⟩
    show B_X6_read_140c _ _ _ _ _ _ _ _ _ _ _ _ = _
    simp (disch := omega) only [B_X6_read_140c, nI_leI]
    rw [if_pos (by omega)]
  | succ k ih =>
    intro f j G hj hf pt
    obtain ⟨f, rfl⟩ : ∃ g, f = g + 1 := ⟨f - 1, by omega⟩
    obtain ⟨a1, a2, a3, a4, a5, a6⟩ := hi j (by omega)
    have gj := wr_g (S := S) g j (fun q hq => hi q (by omega))
    obtain ⟨G2, e, p2⟩ := ih f (j + 1) (upd G (rp_n F (sf 3).2.2 j) (nI (rv_n F (sf 3).2.2 j))) (by omega) (by omega) (pt_G gj a5 pt)
    refine ⟨G2, ?_, p2⟩
    rw [← e]
    show B_X6_read_140c _ _ _ _ _ _ _ _ _ _ _ _ = _
    unfold B_X6_read_140c
    rw [show F + 2 * nI j = nI (rq_n F j) by rw [show (2 : Int32) = nI 2 from rfl, pk_mul]; exact a1]
    simp (disch := omega) only [nI_leI, nI_1, gi_k, nI_clamp, nm_s, a3, a4]
    rw [if_neg (by omega)]
theorem rd_3 {sf : Nat → s_S} {L Z C : Nat → Int32} {torn F : Int32} {l n he sp : Nat} {Bf : Nat → Nat} {K G B R : Nat → Int32} (hs : sr_4 L Z C sf) (h : bk_s pe S (mk_w pe S he sp K G B R) v) (pt : pt_w pe S K G B R) (hl : l ≤ 2) (hn : n ≤ 20) (hB : ∀ j, j < 46 → Bf j = S j) : ∀ (m f e i : Nat), i + m = n → m + 100 < f → 4 * m + 100 < e → ri_p pe F (sf 3).2.2 i →
    ∃ r tr w2 S2 bf2, M_X6_read_45c (sf 0) (sf 1) (sf 2) (sf 3) f torn (mk_w pe S he sp K G B R) (nI l) F (nI n) 0 (nI i) = some (r, tr, w2) ∧ M_X7_read_62 (nI pe) L Z C e torn (nf_a (wr_n S (rp_n F (sf 3).2.2) (rv_n F (sf 3).2.2) i)) (nf_a Bf) (nI 3) (nI l) F (nI n) 0 (nI i) (nI i) = some (r, tr, nf_a S2, bf2) ∧ bk_s pe S2 w2 v ∧ ∀ q, 46 ≤ q → S2 q = S q := by
  have g := h.2.1
  have h5 := g.1
  have g26 := h.2.2.1
  have gv := h.2.2.2
  -- the end, with what was found
  have fin : ∀ (f i : Nat) (fd : Int32), 50 < f → i ≤ n → ri_p pe F (sf 3).2.2 i → ∃ w2, B_X6_read_137c (sf 0) (sf 1) (sf 2) (sf 3) f torn (mk_w pe S he sp K G B R) F fd (nI i) = some (nI i, fd, w2) ∧ bk_s pe (wr_n S (rp_n F (sf 3).2.2) (rv_n F (sf 3).2.2) i) w2 v ∧ ∀ q, 46 ≤ q → wr_n S (rp_n F (sf 3).2.2) (rv_n F (sf 3).2.2) i q = S q := by
    intro f i fd hf hi hri
    obtain ⟨G2, e2, p2⟩ := rw_3 (torn := torn) (fd := fd) (he := he) (sp := sp) (K := K) (B := B) (R := R) g hri (by omega) i f 0 G (by omega) (by omega) pt
    have ho := wr_o (S := S) h5 i hri
    refine ⟨_, e2, ⟨⟨he, sp, K, G2, B, R, ?_, p2⟩, wr_g g i hri, by rw [ho 26 (by omega)]; exact g26, sg_cg (fun q h1 h2 => ho q (by omega)) gv⟩, fun q hq => ho q (by omega)⟩
    unfold mk_w
    rw [ho 17 (by omega), ho 15 (by omega), ho 16 (by omega), ho 26 (by omega)]
  intro m
  induction m with
  | zero =>
    intro f e i hi hf he2 hri
    obtain ⟨f, rfl⟩ : ∃ g, f = g + 1 := ⟨f - 1, by omega⟩
    obtain ⟨e, rfl⟩ : ∃ g, e = g + 1 := ⟨e - 1, by omega⟩
    obtain ⟨w2, e1, b1, o1⟩ := fin f i 0 (by omega) (by omega) hri
    refine ⟨nI i, 0, w2, _, nf_a Bf, ?_, ?_, b1, o1⟩
    · show B_X6_read_45c _ _ _ _ _ _ _ _ _ _ _ _ _ = _
      unfold B_X6_read_45c
      rw [i0_0]
      simp (disch := omega) only [nI_leI]
      rw [if_pos (by omega)]
      exact e1
    · show B_X7_read_62 _ _ _ _ _ _ _ _ _ _ _ _ _ _ _ _ = _
      unfold B_X7_read_62
      simp (disch := omega) only [nI_leI]
      rw [if_pos (by omega)]
  | succ m ih =>
    intro f e i hi hf he2 hri
    obtain ⟨f, rfl⟩ : ∃ g, f = g + 1 + 1 := ⟨f - 2, by omega⟩
    obtain ⟨e, rfl⟩ : ∃ g, e = g + 3 + 1 := ⟨e - 4, by omega⟩
    obtain ⟨r1, r2, r3, r4⟩ := rf_77 (k62 := M_X7_read_62 (nI pe) L Z C (e + 3)) (P := nI pe) (torn := torn) (lane := nI l) (F := F) (N := nI n) (W := nI i) (L := L) (Z := Z) (C := C) (st := nf_a (wr_n S (rp_n F (sf 3).2.2) (rv_n F (sf 3).2.2) i)) (bf := nf_a Bf) (k := 3) (i := i) (f := e) (by omega) (by omega)
    have er : M_X7_read_62 (nI pe) L Z C (e + 3 + 1) torn (nf_a (wr_n S (rp_n F (sf 3).2.2) (rv_n F (sf 3).2.2) i)) (nf_a Bf) (nI 3) (nI l) F (nI n) 0 (nI i) (nI i) = M_X7_read_77 (M_X7_read_62 (nI pe) L Z C (e + 3)) (nI pe) L Z C (e + 3) torn (nf_a (wr_n S (rp_n F (sf 3).2.2) (rv_n F (sf 3).2.2) i)) (nf_a Bf) (nI 3) (nI l) F (nI n) 0 (nI i) (nI i) 0 := by
      show B_X7_read_62 _ _ _ _ _ _ _ _ _ _ _ _ _ _ _ _ = _
      unfold B_X7_read_62
      simp (disch := omega) only [nI_leI]
      rw [if_neg (by omega)]
      simp only [if_true]
    have e2 : F + 2 * nI i = F + nI (2 * i) := by rw [show (2 : Int32) = nI 2 from rfl, pk_mul]
    have e21 : F + nI (2 * i) + 1 = F + nI (2 * i + 1) := by rw [Int32.add_assoc, nI_1]
    have ec : M_X6_read_45c (sf 0) (sf 1) (sf 2) (sf 3) (f + 1 + 1) torn (mk_w pe S he sp K G B R) (nI l) F (nI n) 0 (nI i) = (M_X2_isOther (sf 3) (nI l)).bind (fun u68 => if u68 = 0 then ((M_X2_faultAt (sf 3) (F + nI (2 * i)) (F + nI (2 * i + 1))).bind (fun u86 => B_X6_read_89c (M_X6_read_45c (sf 0) (sf 1) (sf 2) (sf 3) (f + 1)) (sf 0) (sf 1) (sf 2) (sf 3) (f + 1) torn (mk_w pe S he sp K G B R) (nI l) F (nI n) (nI i) (F + nI (2 * i)) u86)) else (B_X6_read_89c (M_X6_read_45c (sf 0) (sf 1) (sf 2) (sf 3) (f + 1)) (sf 0) (sf 1) (sf 2) (sf 3) (f + 1) torn (mk_w pe S he sp K G B R) (nI l) F (nI n) (nI i) (F + nI (2 * i)) 3)) := by
      show B_X6_read_45c _ _ _ _ _ _ _ _ _ _ _ _ _ = _
      unfold B_X6_read_45c
      rw [i0_0, e2, nm_s, e21]
      simp (disch := omega) only [nI_leI]
      rw [if_neg (by omega)]
    -- a fault was found
    have flt : ∀ fd : Int32, ¬ fd = 0 → ∃ w2 S2, B_X6_read_89c (M_X6_read_45c (sf 0) (sf 1) (sf 2) (sf 3) (f + 1)) (sf 0) (sf 1) (sf 2) (sf 3) (f + 1) torn (mk_w pe S he sp K G B R) (nI l) F (nI n) (nI i) (F + nI (2 * i)) fd = some (nI i, fd, w2) ∧ M_X7_read_62 (nI pe) L Z C (e + 3) torn (nf_a (wr_n S (rp_n F (sf 3).2.2) (rv_n F (sf 3).2.2) i)) (nf_a Bf) (nI 3) (nI l) F (nI n) fd (nI i) (nI i + 1) = some (nI i, fd, nf_a S2, nf_a Bf) ∧ bk_s pe S2 w2 v ∧ ∀ q, 46 ≤ q → S2 q = S q := by
      intro fd hfd
      obtain ⟨w2, e1, b1, o1⟩ := fin f i fd (by omega) (by omega) hri
      refine ⟨w2, _, ?_, ?_, b1, o1⟩
      · unfold B_X6_read_89c B_X6_read_134c
        rw [if_neg hfd]
        show B_X6_read_45c _ _ _ _ _ _ _ _ _ _ _ _ _ = _
        unfold B_X6_read_45c
        rw [if_neg hfd]
        exact e1
      · show B_X7_read_62 _ _ _ _ _ _ _ _ _ _ _ _ _ _ _ _ = _
        unfold B_X7_read_62
        rw [if_neg hfd]
        split <;> rfl
    rw [er, ec]
    rcases hs 3 (by omega) with ⟨hl4, hs1⟩ | ⟨l9, n9, a1, a2, a3, a4, a5, a6, a7⟩
    · rw [r1 hl4]
      obtain ⟨w2, S2, f1, f2, f3, f4⟩ := flt 1 (by decide)
      refine ⟨_, _, w2, S2, _, ?_, f2, f3, f4⟩
      unfold M_X2_isOther B_X2_isOther_0 M_X2_faultAt B_X2_faultAt_0
      rw [if_pos hs1, if_pos hs1]
      simp only [bn_s, i0_0]
      exact f1
    · have nl : ¬ L 3 = -4 := by rw [a3]; exact n4_ne (by omega)
      have ns : ¬ (sf 3).1 = -1 := by
        rw [a4]
        intro e
        have e2 := congrArg Int32.toInt e
        rw [nI_toInt (by omega)] at e2
        have e3 : (-1 : Int32).toInt = -1 := by decide
        omega
      unfold M_X2_isOther B_X2_isOther_0
      rw [if_neg ns]
      by_cases cl : (sf 3).1 = nI l
      · have cl2 : L 3 = nI l := by rw [a3, ← a4]; exact cl
        rw [if_pos cl]
        simp only [bn_s, i0_0]
        unfold M_X2_faultAt B_X2_faultAt_0
        rw [if_neg ns, a6]
        rcases ix_c F (m := 2 * i) (n := n9) (by omega) (by omega) with ⟨q, hq, eq1, eq2, eq3⟩ | ⟨eq3, eq4⟩
        · rcases ix_c F (m := 2 * i + 1) (n := n9) (by omega) (by omega) with ⟨q2, hq2, fq1, fq2, fq3⟩ | ⟨fq3, fq4⟩
          · rw [eq3]
            simp only [bn_s, i1_0]
            rw [fq3]
            simp only [bn_s, i1_0]
            rw [r4 n9 a2 a5 nl cl2 (by omega)]
            have hq3 : q2 = q + 1 := by omega
            subst hq3
            have erq : rq_n F i = q := by unfold rq_n; rw [eq1, nI_clamp (by omega)]
            have ecell : ((40 * nI 3) + F) + (2 * nI i) = nI (40 * 3 + q) := by
              rw [Int32.add_assoc, e2, eq1, show (40 : Int32) = nI 40 from rfl, pk_mul, nI_add]
            unfold B_X6_read_89c B_X7_read_164
            rw [i0_0, i0_0, ecell, eq1]
            simp (disch := omega) only [gi_k, nI_clamp, nI_1, nm_s]
            rw [a7 q (by omega), a7 (q + 1) (by omega), ← Nat.add_assoc]
            rcases al_c (pe := pe) (C (40 * 3 + q)) (C (40 * 3 + q + 1)) h5 (wr_n S (rp_n F (sf 3).2.2) (rv_n F (sf 3).2.2) i) with ⟨p, gg, hp, ea, hg, eb, c1, c2⟩ | ⟨c1, c2⟩
            · rw [c1 _ rfl, c2]
              simp only [bn_s, i1_0]
              have gi := (wr_g (S := S) g i hri).2.2.2.2.2.1 p hp
              rw [if_pos (nI_pos' (by omega))]
              unfold B_X6_read_134c B_X7_read_245
              have erp : rp_n F (sf 3).2.2 i = p := by unfold rp_n; rw [erq, a7 q (by omega), ea, nI_clamp (by omega)]
              have erv : rv_n F (sf 3).2.2 i = gg := by unfold rv_n; rw [erq, a7 (q + 1) (by omega), ← Nat.add_assoc, eb, nI_clamp (by omega)]
              have hri2 : ri_p pe F (sf 3).2.2 (i + 1) := by
                intro j hj
                by_cases ej : j = i
                · subst ej
                  rw [erq, erp, erv]
                  refine ⟨eq1, by omega, ?_, ?_, hp, hg⟩
                  · rw [a7 q (by omega), ea]
                  · rw [a7 (q + 1) (by omega), ← Nat.add_assoc, eb]
                · exact hri j (by omega)
              have ihh := ih (f + 1) (e + 3) (i + 1) (by omega) (by omega) (by omega) hri2
              rw [wr_n, erp, erv] at ihh
              rw [nI_1]
              exact ihh
            · rw [c1 _ rfl, c2]
              simp only [bn_s, i0_0]
              rw [if_neg (show ¬ (0 : Int32) ≤ -1 by decide)]
              rw [show M_X7_read_209 (nI pe) L Z C e torn (nf_a (wr_n S (rp_n F (sf 3).2.2) (rv_n F (sf 3).2.2) i)) (nf_a Bf) (nI i) 0 = _ from rf_rs (I := nI i) 46 e 0 (wr_n S (rp_n F (sf 3).2.2) (rv_n F (sf 3).2.2) i) (by omega) (by omega)]
              refine ⟨_, _, _, _, _, rfl, rfl, bk_cg (fun q2 h2 => (if_pos (by omega)).trans (hB q2 h2)) h, fun q2 h2 => (if_neg (by omega)).trans (wr_o h5 i hri q2 (by omega))⟩
          · rw [eq3]
            simp only [bn_s, i1_0]
            rw [fq3]
            simp only [bn_s, i0_0]
            rw [r3 n9 a2 a5 nl cl2 (by omega)]
            obtain ⟨w2, S2, f1, f2, f3, f4⟩ := flt 2 (by decide)
            exact ⟨_, _, w2, S2, _, f1, f2, f3, f4⟩
        · rw [eq3]
          simp only [bn_s, i0_0]
          rw [r3 n9 a2 a5 nl cl2 (by omega)]
          obtain ⟨w2, S2, f1, f2, f3, f4⟩ := flt 2 (by decide)
          exact ⟨_, _, w2, S2, _, f1, f2, f3, f4⟩
      · have cl2 : ¬ L 3 = nI l := by rw [a3, ← a4]; exact cl
        rw [if_neg cl]
        simp only [bn_s, i1_0]
        rw [r2 nl cl2]
        obtain ⟨w2, S2, f1, f2, f3, f4⟩ := flt 3 (by decide)
        exact ⟨_, _, w2, S2, _, f1, f2, f3, f4⟩
theorem op_read {w : s_W} {sf : Nat → s_S} {L Z C bf : Nat → Int32} {torn : Int32} {f : Nat} (h : bk_s pe S w v) (hs : sr_4 L Z C sf) (hf : 500 < f) (z1 z2 z3 z4 : Int32) : ∃ r tr w2 S2 bf2, M_X6_read (sf 0) (sf 1) (sf 2) (sf 3) f torn w z1 z2 z3 z4 = some (r, tr, w2) ∧ M_X7_read (nI pe) L Z C f torn (nf_a S) bf z1 z2 z3 z4 = some (r, tr, nf_a S2, bf2) ∧ bk_s pe S2 w2 v ∧ ∀ q, 46 ≤ q → S2 q = S q := by
  unfold M_X6_read B_X6_read_0 M_X7_read B_X7_read_0
  rw [is_e, in_k z4 0 20 0 20 (by decide) (by decide)]
  rcases wi_c z1 0 3 0 3 rfl rfl (by omega) (by omega) with ⟨k, k1, k2, rfl, e1⟩ | e1
  · rw [e1]
    simp only [bn_s, i1_0]
    rcases wi_c z2 0 2 0 2 rfl rfl (by omega) (by omega) with ⟨l, l1, l2, rfl, e2⟩ | e2
    · rw [e2]
      simp only [bn_s, i1_0]
      rcases wi_c z4 0 20 0 20 rfl rfl (by omega) (by omega) with ⟨n, n1, n2, rfl, e3⟩ | e3
      · rw [e3]
        simp only [bn_s, i1_0]
        obtain ⟨b0, rfl⟩ := nf_ex bf
        obtain ⟨f2, hf2, ef⟩ := rf_26 (S := S) (P := nI pe) (torn := torn) (k := nI k) (lane := nI l) (F := z3) (N := nI n) (L := L) (Z := Z) (C := C) 46 f 0 b0 (by omega) (by omega)
        rw [show M_X7_read_26 (nI pe) L Z C f torn (nf_a S) (nf_a b0) (nI k) (nI l) z3 (nI n) 0 = _ from ef]
        have h0 := h
        obtain ⟨⟨he, sp, K, G, B, R, rfl, pt⟩, -, -, -⟩ := h0
        have r0 : ∀ A, ri_p pe z3 A 0 := fun A j hj => absurd hj (by omega)
        have hk : k = 0 ∨ k = 1 ∨ k = 2 ∨ k = 3 := by omega
        rcases hk with rfl | rfl | rfl | rfl
        · rw [if_pos (show nI 0 = 0 from rfl)]
          exact rd_0 hs h pt l2 n2 (fun j hj => if_pos (by omega)) n f f2 0 (by omega) (by omega) (by omega) (r0 _)
        · rw [if_neg (show ¬ nI 1 = 0 by decide), if_pos (show nI 1 = 1 from rfl)]
          exact rd_1 hs h pt l2 n2 (fun j hj => if_pos (by omega)) n f f2 0 (by omega) (by omega) (by omega) (r0 _)
        · rw [if_neg (show ¬ nI 2 = 0 by decide), if_neg (show ¬ nI 2 = 1 by decide), if_pos (show nI 2 = 2 from rfl)]
          exact rd_2 hs h pt l2 n2 (fun j hj => if_pos (by omega)) n f f2 0 (by omega) (by omega) (by omega) (r0 _)
        · rw [if_neg (show ¬ nI 3 = 0 by decide), if_neg (show ¬ nI 3 = 1 by decide), if_neg (show ¬ nI 3 = 2 by decide), if_pos (show nI 3 = 3 from rfl)]
          exact rd_3 hs h pt l2 n2 (fun j hj => if_pos (by omega)) n f f2 0 (by omega) (by omega) (by omega) (r0 _)
      · rw [e3]
        exact ⟨_, _, _, S, _, rfl, rfl, h, fun _ _ => rfl⟩
    · rw [e2]
      exact ⟨_, _, _, S, _, rfl, rfl, h, fun _ _ => rfl⟩
  · rw [e1]
    exact ⟨_, _, _, S, _, rfl, rfl, h, fun _ _ => rfl⟩
end
