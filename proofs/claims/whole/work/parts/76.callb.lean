/-! a call inside a large world, its cells in any order -/
def mg_L (al : List (Nat × (Nat × va_E))) : Nat → va_W → va_W
  | _, [] => []
  | k, x :: xs => (match al.find? (fun p => p.1 == k) with | some p => p.2 | none => x) :: mg_L al (k + 1) xs
theorem mg_1 {al : List (Nat × (Nat × va_E))} : ∀ (ws : va_W) (k0 k : Nat) (x : Nat × va_E), (mg_L al k0 ws)[k]? = some x → (∃ p, al.find? (fun p => p.1 == k0 + k) = some p ∧ p.2 = x) ∨ (al.find? (fun p => p.1 == k0 + k) = none ∧ ws[k]? = some x) := by
  intro ws
  induction ws with
  | nil => intro k0 k x h; cases h
  | cons y ys ih =>
    intro k0 k x h
    cases k with
    | zero =>
      have h : some (match al.find? (fun p => p.1 == k0) with | some p => p.2 | none => y) = some x := h
      rw [Nat.add_zero]
      cases hf : al.find? (fun p => p.1 == k0) with
      | none => rw [hf] at h; exact Or.inr ⟨rfl, h⟩
      | some p => rw [hf] at h; exact Or.inl ⟨p, rfl, Option.some.inj h⟩
    | succ k =>
      have h : (mg_L al (k0 + 1) ys)[k]? = some x := h
      have r := ih (k0 + 1) k x h
      rw [show k0 + 1 + k = k0 + (k + 1) by omega] at r
      exact r
theorem mg_g {ws : va_W} (is : List Nat) (xs : va_W) (hl : xs.length = is.length) (k : Nat) (x : Nat × va_E) (h : (mg_L (is.zip xs) 0 ws)[k]? = some x) : (∃ j : Nat, is[j]? = some k ∧ xs[j]? = some x) ∨ (k ∉ is ∧ ws[k]? = some x) := by
  rcases mg_1 ws 0 k x h with ⟨p, h1, h2⟩ | ⟨h1, h2⟩
  · rw [Nat.zero_add] at h1
    have e : p.1 = k := by
      have := List.find?_some h1
      simpa using this
    obtain ⟨j, hj⟩ := List.getElem?_of_mem (List.mem_of_find?_eq_some h1)
    obtain ⟨g1, g2⟩ := List.getElem?_zip_eq_some.mp hj
    exact Or.inl ⟨j, by rw [← e]; exact g1, by rw [← h2]; exact g2⟩
  · rw [Nat.zero_add] at h1
    refine Or.inr ⟨fun hk => ?_, h2⟩
    obtain ⟨j, hj⟩ := List.getElem?_of_mem hk
    have hlt : j < xs.length := by
      rw [hl]
      exact (List.getElem?_eq_some_iff.mp hj).1
    have hx : xs[j]? = some xs[j] := List.getElem?_eq_getElem hlt
    have hm : (k, xs[j]) ∈ is.zip xs := List.mem_of_getElem? (i := j) (List.getElem?_zip_eq_some.mpr ⟨hj, hx⟩)
    have := List.find?_eq_none.mp h1 _ hm
    simp at this
section
variable {p : Program} {l : Launch} {e : Env} {R : Room} {s : State} {m : MethodId} {args a : Array Value} {below : List Frame} {meth : Method} {c : Code} {H : Heap} {locs : List Loc} {cells slots : Nat} {Q : State → Prop} {D : va_G} {cy : Nat → ClassId} {A : Nat → Prop} {ws wc : va_W} {rest st : List Value} {pc : Nat} {ls : Array Slot}
theorem jm_u {w1 : va_W} {H1 : Heap} (hP : va_P D vwCl ws H) (hD : va_D A ws) (hF : ∀ q, va_A wc H.size q → A q) (isC : List Nat) (hC : isC.map (fun i => ws[i]?) = wc.map some) (hl : w1.length = isC.length) (hk : ∀ q : Nat, q < H.size → ¬ va_A wc H.size q → H1[q]? = H[q]?) (hP1 : va_P D vwCl w1 H1) (hD1 : va_D (va_A wc H.size) w1) : va_P D vwCl (mg_L (isC.zip w1) 0 ws) H1 ∧ va_D A (mg_L (isC.zip w1) 0 ws) := by
  have apart : ∀ (k : Nat) (q : Nat × va_E), k ∉ isC → ws[k]? = some q → q.1 < H.size ∧ ¬ va_A wc H.size q.1 := by
    intro k q hn hq
    have hlt := (hP k q hq).lt
    refine ⟨hlt, fun h => ?_⟩
    rcases h with ⟨k2, e, h⟩ | h
    · obtain ⟨j, h3, h4⟩ := jn_a hC k2 (q.1, e) h
      have hij := hD.1 k j q (q.1, e) hq h4 rfl
      subst hij
      exact hn (List.mem_of_getElem? h3)
    · omega
  refine ⟨fun k q hq => ?_, fun i j x y hx hy hxy => ?_, fun k q hq => ?_⟩
  · rcases mg_g isC w1 hl k q hq with ⟨j, h1, h2⟩ | ⟨h1, h2⟩
    · exact hP1 j q h2
    · obtain ⟨g1, g2⟩ := apart k q h1 h2
      exact (hP k q h2).kept (hk q.1 g1 g2)
  · rcases mg_g isC w1 hl i x hx with ⟨j1, h1, h2⟩ | ⟨h1, h2⟩
    · rcases mg_g isC w1 hl j y hy with ⟨j2, h3, h4⟩ | ⟨h3, h4⟩
      · have e := hD1.1 j1 j2 x y h2 h4 hxy
        subst e
        exact Option.some.inj (h1.symm.trans h3)
      · exact absurd (by rw [← hxy]; exact hD1.2 j1 x h2) (apart j y h3 h4).2
    · rcases mg_g isC w1 hl j y hy with ⟨j2, h3, h4⟩ | ⟨h3, h4⟩
      · exact absurd (by rw [hxy]; exact hD1.2 j2 y h4) (apart i x h1 h2).2
      · exact hD.1 i j x y h2 h4 hxy
  · rcases mg_g isC w1 hl k q hq with ⟨j, h1, h2⟩ | ⟨h1, h2⟩
    · exact hF _ (hD1.2 j q h2)
    · exact hD.2 k q h2
theorem cm_i {S : Type} {post : Int32 → S → Prop} {w1 : S → va_W} (w2 : S → va_W) (hP : va_P D vwCl ws H) (hD : va_D A ws) (hS : va_S A s.heap H locs) (hA : ∀ q, s.heap.size ≤ q → A q) (isC : List Nat) (hC : isC.map (fun i => ws[i]?) = wc.map some) (hn : va_nd isC = true) (hr : va_P D vwCl wc H → va_D A wc → (∀ q, va_A wc H.size q → A q) → va_Run p l e R s m args below meth c H locs cells slots 0 0 (F0 m pc ls st) rest (va_Qi post (fun u t => st_B D cy (va_A wc H.size) (w1 u) t) (va_A wc H.size) a) (va_A wc H.size)) (hl : ∀ u, (w1 u).length = isC.length) (h2 : ∀ u, mg_L (isC.zip (w1 u)) 0 ws = w2 u)
    (kk : ∀ (r : Int32) (u : S) (H1 : Heap) (locs1 : List Loc), post r u → va_P D vwCl (w2 u) H1 → va_D A (w2 u) → va_S A s.heap H1 locs1 → W p l e R s m args below meth c H1 locs1 cells slots Q (F0 m (pc + 3) ls (.int r :: rest))) : W p l e R s m args below meth c H locs cells slots Q (F0 m pc ls st) := by
  have hF := va_free (wc := wc) hD hS hA isC hC
  refine va_calli (hr (hP.sub isC (fm_s isC hC)) (hD.sub isC hn hC) hF) hS (fun q _ h => hF q h) hF (fun r u t H1 locs1 ht hvm hw hB hz1 hk1 hS1 => ?_)
  obtain ⟨hP1, -, hD1⟩ := hB
  rw [ht] at hP1
  obtain ⟨a1, b1⟩ := jm_u hP hD hF isC hC (hl u) hk1 hP1 hD1
  rw [h2 u] at a1 b1
  exact kk r u H1 locs1 hw a1 b1 hS1
theorem cm_l {S : Type} {post : Int64 → S → Prop} {w1 : S → va_W} (w2 : S → va_W) (hP : va_P D vwCl ws H) (hD : va_D A ws) (hS : va_S A s.heap H locs) (hA : ∀ q, s.heap.size ≤ q → A q) (isC : List Nat) (hC : isC.map (fun i => ws[i]?) = wc.map some) (hn : va_nd isC = true) (hr : va_P D vwCl wc H → va_D A wc → (∀ q, va_A wc H.size q → A q) → va_Run p l e R s m args below meth c H locs cells slots 0 0 (F0 m pc ls st) rest (va_Ql post (fun u t => st_B D cy (va_A wc H.size) (w1 u) t) (va_A wc H.size) a) (va_A wc H.size)) (hl : ∀ u, (w1 u).length = isC.length) (h2 : ∀ u, mg_L (isC.zip (w1 u)) 0 ws = w2 u)
    (kk : ∀ (r : Int64) (u : S) (H1 : Heap) (locs1 : List Loc), post r u → va_P D vwCl (w2 u) H1 → va_D A (w2 u) → va_S A s.heap H1 locs1 → W p l e R s m args below meth c H1 locs1 cells slots Q (F0 m (pc + 3) ls (.long r :: rest))) : W p l e R s m args below meth c H locs cells slots Q (F0 m pc ls st) := by
  have hF := va_free (wc := wc) hD hS hA isC hC
  refine va_calll (hr (hP.sub isC (fm_s isC hC)) (hD.sub isC hn hC) hF) hS (fun q _ h => hF q h) hF (fun r u t H1 locs1 ht hvm hw hB hz1 hk1 hS1 => ?_)
  obtain ⟨hP1, -, hD1⟩ := hB
  rw [ht] at hP1
  obtain ⟨a1, b1⟩ := jm_u hP hD hF isC hC (hl u) hk1 hP1 hD1
  rw [h2 u] at a1 b1
  exact kk r u H1 locs1 hw a1 b1 hS1
end
