/-! a call inside a large world: its cells as the callee left them, at their places -/
def st_L (ws : va_W) : List Nat → va_W → va_W
  | [], _ => ws
  | i :: is, xs => match xs with
    | [] => ws
    | x :: xs => (st_L ws is xs).set i x
theorem st_g {ws : va_W} : ∀ (is : List Nat) (xs : va_W), xs.length = is.length → ∀ (k : Nat) (x : Nat × va_E), (st_L ws is xs)[k]? = some x → (∃ j : Nat, is[j]? = some k ∧ xs[j]? = some x) ∨ (k ∉ is ∧ ws[k]? = some x) := by
  intro is
  induction is with
  | nil =>
    intro xs _ k x h
    exact Or.inr ⟨List.not_mem_nil, h⟩
  | cons i is ih =>
    intro xs hl k x h
    cases xs with
    | nil => cases hl
    | cons y xs =>
      have h : ((st_L ws is xs).set i y)[k]? = some x := h
      rw [List.getElem?_set] at h
      by_cases c : i = k
      · rw [if_pos c] at h
        by_cases d : i < (st_L ws is xs).length
        · rw [if_pos d] at h
          exact Or.inl ⟨0, by rw [c]; rfl, h⟩
        · rw [if_neg d] at h
          cases h
      · rw [if_neg c] at h
        rcases ih xs (Nat.succ.inj hl) k x h with ⟨j, h1, h2⟩ | ⟨h1, h2⟩
        · exact Or.inl ⟨j + 1, h1, h2⟩
        · refine Or.inr ⟨fun q => ?_, h2⟩
          rcases List.mem_cons.mp q with q | q
          · exact c q.symm
          · exact h1 q
section
variable {p : Program} {l : Launch} {e : Env} {R : Room} {s : State} {m : MethodId} {args a : Array Value} {below : List Frame} {meth : Method} {c : Code} {H : Heap} {locs : List Loc} {cells slots : Nat} {Q : State → Prop} {D : va_G} {cy : Nat → ClassId} {A : Nat → Prop} {ws wc : va_W} {rest st : List Value} {pc : Nat} {ls : Array Slot}
theorem jn_a {is : List Nat} {w : va_W} (hs : is.map (fun i => ws[i]?) = w.map some) : ∀ (k : Nat) (q : Nat × va_E), w[k]? = some q → ∃ i, is[k]? = some i ∧ ws[i]? = some q := by
  intro k q hq
  have h1 : (is.map (fun i => ws[i]?))[k]? = some (some q) := by rw [hs, List.getElem?_map, hq]; rfl
  rw [List.getElem?_map] at h1
  cases hi : is[k]? with
  | none => rw [hi] at h1; cases h1
  | some i => rw [hi] at h1; exact ⟨i, rfl, Option.some.inj h1⟩
theorem jn_u {w1 : va_W} {H1 : Heap} (hP : va_P D vwCl ws H) (hD : va_D A ws) (hF : ∀ q, va_A wc H.size q → A q) (isC : List Nat) (hC : isC.map (fun i => ws[i]?) = wc.map some) (hl : w1.length = isC.length) (hk : ∀ q : Nat, q < H.size → ¬ va_A wc H.size q → H1[q]? = H[q]?) (hP1 : va_P D vwCl w1 H1) (hD1 : va_D (va_A wc H.size) w1) : va_P D vwCl (st_L ws isC w1) H1 ∧ va_D A (st_L ws isC w1) := by
  have apart : ∀ (k : Nat) (q : Nat × va_E), k ∉ isC → ws[k]? = some q → q.1 < H.size ∧ ¬ va_A wc H.size q.1 := by
    intro k q hn hq
    have hlt := (hP k q hq).lt
    refine ⟨hlt, fun h => ?_⟩
    rcases h with ⟨k2, e, h⟩ | h
    · obtain ⟨j, h3, h4⟩ := jn_a hC k2 (q.1, e) h
      have hij := hD.1 k j q (q.1, e) hq h4 rfl
      subst hij
      exact hn (List.mem_of_getElem? h3)
    · omega
  refine ⟨fun k q hq => ?_, fun i j x y hx hy hxy => ?_, fun k q hq => ?_⟩
  · rcases st_g isC w1 hl k q hq with ⟨j, h1, h2⟩ | ⟨h1, h2⟩
    · exact hP1 j q h2
    · obtain ⟨g1, g2⟩ := apart k q h1 h2
      exact (hP k q h2).kept (hk q.1 g1 g2)
  · rcases st_g isC w1 hl i x hx with ⟨j1, h1, h2⟩ | ⟨h1, h2⟩
    · rcases st_g isC w1 hl j y hy with ⟨j2, h3, h4⟩ | ⟨h3, h4⟩
      · have e := hD1.1 j1 j2 x y h2 h4 hxy
        subst e
        exact Option.some.inj (h1.symm.trans h3)
      · exact absurd (by rw [← hxy]; exact hD1.2 j1 x h2) (apart j y h3 h4).2
    · rcases st_g isC w1 hl j y hy with ⟨j2, h3, h4⟩ | ⟨h3, h4⟩
      · exact absurd (by rw [hxy]; exact hD1.2 j2 y h4) (apart i x h1 h2).2
      · exact hD.1 i j x y h2 h4 hxy
  · rcases st_g isC w1 hl k q hq with ⟨j, h1, h2⟩ | ⟨h1, h2⟩
    · exact hF _ (hD1.2 j q h2)
    · exact hD.2 k q h2
theorem fm_s {w : va_W} (isC : List Nat) (hC : isC.map (fun i => ws[i]?) = w.map some) : isC.filterMap (fun i => ws[i]?) = w := by
  have h3 := congrArg (fun l => l.filterMap id) hC
  simpa [List.filterMap_map] using h3
theorem cu_i {S : Type} {post : Int32 → S → Prop} {w1 : S → va_W} (w2 : S → va_W) (hP : va_P D vwCl ws H) (hD : va_D A ws) (hS : va_S A s.heap H locs) (hA : ∀ q, s.heap.size ≤ q → A q) (isC : List Nat) (hC : isC.map (fun i => ws[i]?) = wc.map some) (hn : va_nd isC = true) (hr : va_P D vwCl wc H → va_D A wc → (∀ q, va_A wc H.size q → A q) → va_Run p l e R s m args below meth c H locs cells slots 0 0 (F0 m pc ls st) rest (va_Qi post (fun u t => st_B D cy (va_A wc H.size) (w1 u) t) (va_A wc H.size) a) (va_A wc H.size)) (hl : ∀ u, (w1 u).length = isC.length) (h2 : ∀ u, st_L ws isC (w1 u) = w2 u)
    (kk : ∀ (r : Int32) (u : S) (H1 : Heap) (locs1 : List Loc), post r u → va_P D vwCl (w2 u) H1 → va_D A (w2 u) → va_S A s.heap H1 locs1 → W p l e R s m args below meth c H1 locs1 cells slots Q (F0 m (pc + 3) ls (.int r :: rest))) : W p l e R s m args below meth c H locs cells slots Q (F0 m pc ls st) := by
  have hF := va_free (wc := wc) hD hS hA isC hC
  refine va_calli (hr (hP.sub isC (fm_s isC hC)) (hD.sub isC hn hC) hF) hS (fun q _ h => hF q h) hF (fun r u t H1 locs1 ht hvm hw hB hz1 hk1 hS1 => ?_)
  obtain ⟨hP1, -, hD1⟩ := hB
  rw [ht] at hP1
  obtain ⟨a1, b1⟩ := jn_u hP hD hF isC hC (hl u) hk1 hP1 hD1
  rw [h2 u] at a1 b1
  exact kk r u H1 locs1 hw a1 b1 hS1
theorem cu_l {S : Type} {post : Int64 → S → Prop} {w1 : S → va_W} (w2 : S → va_W) (hP : va_P D vwCl ws H) (hD : va_D A ws) (hS : va_S A s.heap H locs) (hA : ∀ q, s.heap.size ≤ q → A q) (isC : List Nat) (hC : isC.map (fun i => ws[i]?) = wc.map some) (hn : va_nd isC = true) (hr : va_P D vwCl wc H → va_D A wc → (∀ q, va_A wc H.size q → A q) → va_Run p l e R s m args below meth c H locs cells slots 0 0 (F0 m pc ls st) rest (va_Ql post (fun u t => st_B D cy (va_A wc H.size) (w1 u) t) (va_A wc H.size) a) (va_A wc H.size)) (hl : ∀ u, (w1 u).length = isC.length) (h2 : ∀ u, st_L ws isC (w1 u) = w2 u)
    (kk : ∀ (r : Int64) (u : S) (H1 : Heap) (locs1 : List Loc), post r u → va_P D vwCl (w2 u) H1 → va_D A (w2 u) → va_S A s.heap H1 locs1 → W p l e R s m args below meth c H1 locs1 cells slots Q (F0 m (pc + 3) ls (.long r :: rest))) : W p l e R s m args below meth c H locs cells slots Q (F0 m pc ls st) := by
  have hF := va_free (wc := wc) hD hS hA isC hC
  refine va_calll (hr (hP.sub isC (fm_s isC hC)) (hD.sub isC hn hC) hF) hS (fun q _ h => hF q h) hF (fun r u t H1 locs1 ht hvm hw hB hz1 hk1 hS1 => ?_)
  obtain ⟨hP1, -, hD1⟩ := hB
  rw [ht] at hP1
  obtain ⟨a1, b1⟩ := jn_u hP hD hF isC hC (hl u) hk1 hP1 hD1
  rw [h2 u] at a1 b1
  exact kk r u H1 locs1 hw a1 b1 hS1
end
