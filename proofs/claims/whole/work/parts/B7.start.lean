/-! what holds at the start -/
def Ini (m : jM) : Prop := ∀ q, 0 ≤ q → q < 218 → rowOK q (m q)
theorem ini_at {m : jM} (h : Ini m) (q : Int) (i : Nat) (v : Int) (e : (iniL.lookup q).bind (fun l => l[i]?) = some v) (q0 : 0 ≤ q) (q1 : q < 218) : m q i = v := by
  have r := h q q0 q1
  cases hl : iniL.lookup q with
  | none => rw [hl] at e; cases e
  | some l =>
    rw [hl] at e
    exact rowOK_at r hl i v e
theorem ini_0 {m : jM} (h : Ini m) (q : Int) (hl : iniL.lookup q = none) (q7 : q ≠ 7) (q0 : 0 ≤ q) (q1 : q < 218) (i : Int) : m q i = 0 := by
  rw [rowOK_0 (h q q0 q1) hl q7]
  rfl
theorem ini_lay {m : jM} (h : Ini m) (hu : utI m) (h7 : m (-3) (-1) = 7) : Lay m := by
  have key : layL.all (fun q => decide ((0 ≤ q.1 ∧ q.1 < 218 ∧ 0 ≤ q.2.1 ∧ (iniL.lookup q.1).bind (fun l => l[q.2.1.toNat]?) = some q.2.2) ∨ (q.1 = -3 ∧ q.2.1 = -1 ∧ q.2.2 = 7) ∨ (q.1 = -3 ∧ 0 ≤ q.2.1 ∧ q.2.1 < 7 ∧ q.2.2 = uT q.2.1))) = true := by decide +kernel
  refine ⟨fun q hq => ?_, Or.inl (ini_at h 11 2 27 (by decide +kernel) (by decide) (by decide))⟩
  rcases of_decide_eq_true (List.all_eq_true.mp key q hq) with k | k | k
  · have := ini_at h q.1 q.2.1.toNat q.2.2 k.2.2.2 k.1 k.2.1
    rw [Int.toNat_of_nonneg k.2.2.1] at this
    exact this
  · rw [k.1, k.2.1, k.2.2]; exact h7
  · rw [k.1, k.2.2.2]; exact hu _ k.2.1 k.2.2.1
theorem lay_ut {m : jM} (h : Lay m) : utI m := by
  intro i i0 i1
  have key : (List.range 7).all (fun i => layL.contains ((-3 : Int), (i : Int), uT i)) = true := by decide +kernel
  have k := List.all_eq_true.mp key i.toNat (List.mem_range.mpr (by omega))
  have := h.1 _ (List.contains_iff_mem.mp k)
  simp only [Int.toNat_of_nonneg i0] at this
  exact this
/-- all that the class and the reference keep between calls -/
def allI (m : jM) : Prop := (tpInv m ∧ fcInv m ∧ snInv m ∧ teInv m ∧ crInv m) ∧ (txInv m ∧ vwR m ∧ plI m ∧ flI m) ∧ wkI m ∧ m 0 11 = m 139 9
theorem ini_all {m : jM} (h : Ini m) : allI m := by
  have e0 : ∀ i : Nat, (i = 0 ∨ i = 12 ∨ i = 41 ∨ i = 44 ∨ i = 50 ∨ i = 52 ∨ i = 56 ∨ i = 60) → m 139 i = 0 := by
    intro i hi
    rcases hi with rfl | rfl | rfl | rfl | rfl | rfl | rfl | rfl <;> exact ini_at h 139 _ 0 (by decide +kernel) (by decide) (by decide)
  have z0 : m 139 0 = 0 := e0 0 (by decide)
  have z12 : m 139 12 = 0 := e0 12 (by decide)
  have z44 : m 139 44 = 0 := e0 44 (by decide)
  have z50 : m 139 50 = 0 := e0 50 (by decide)
  have z52 : m 139 52 = 0 := e0 52 (by decide)
  have z56 : m 139 56 = 0 := e0 56 (by decide)
  have z60 : m 139 60 = 0 := e0 60 (by decide)
  have st : m 11 5 = 0 := ini_at h 11 5 0 (by decide +kernel) (by decide) (by decide)
  refine ⟨⟨⟨?_, by rw [z0]; exact Int.le_refl _, by rw [z0]; decide, fun i i0 i1 => by omega⟩, ⟨⟨by rw [z44, z50]; decide, fun i i0 i1 => by omega, fun i i0 i1 => by omega, fun c c' c0 c1 c2 => by omega⟩, ⟨?_, ?_, fun i i0 i1 => by omega, fun i n i0 i1 => by omega, fun i i0 i1 => by omega, fun i i0 i1 => by omega⟩⟩, ⟨⟨by rw [z60]; exact Int.le_refl _, by rw [z60]; decide, fun i i0 i1 => by omega⟩, ⟨?_, fun i i0 i1 => by omega, fun a a0 a1 => ?_⟩⟩, teInv_mk ⟨by rw [z52]; exact Int.le_refl _, by rw [z52]; decide, fun i i0 i1 => by omega⟩ ⟨?_, fun i i0 i1 => by omega⟩ ?_, crInv_mk ⟨by rw [z56]; exact Int.le_refl _, by rw [z56]; decide, fun i i0 i1 => by omega, fun r r0 r1 => ?_⟩ ⟨?_, fun i i0 i1 => by omega, fun x x0 x1 => ?_, fun r r0 r1 => ?_⟩ ?_⟩, ⟨⟨⟨by rw [z12]; exact Int.le_refl _, by rw [z12]; decide, ?_⟩, fun k k0 k1 => by omega⟩, Or.inl ⟨?_, st⟩, fun s s0 s1 => ⟨⟨?_, ?_, ?_, ?_⟩, ?_, ?_, fun _ w => by rw [st] at w; omega⟩, ⟨?_, ?_, fun _ w => by rw [st] at w; omega⟩⟩, ?_, ?_⟩
  · rw [z0]; exact ini_at h 2 1 0 (by decide +kernel) (by decide) (by decide)
  · rw [z44]; exact ini_at h 13 0 0 (by decide +kernel) (by decide) (by decide)
  · rw [z50]; exact ini_at h 13 1 0 (by decide +kernel) (by decide) (by decide)
  · rw [z60]; exact ini_at h 133 0 0 (by decide +kernel) (by decide) (by decide)
  · rw [z60]
    exact ini_0 h 138 (by decide +kernel) (by decide) (by decide) (by decide) a
  · rw [z52]; exact ini_at h 120 0 0 (by decide +kernel) (by decide) (by decide)
  · exact ini_at h 120 7 0 (by decide +kernel) (by decide) (by decide)
  · have : m 185 r = 1 := by
      have := rowOK_at (h 185 (by decide) (by decide)) (l := [1, 1, 1, 1, 1, 1, 1, 1, 1, 1]) (by decide +kernel) r.toNat 1 (by
        have c : r = 0 ∨ r = 1 ∨ r = 2 ∨ r = 3 ∨ r = 4 ∨ r = 5 ∨ r = 6 ∨ r = 7 ∨ r = 8 ∨ r = 9 := by omega
        rcases c with rfl | rfl | rfl | rfl | rfl | rfl | rfl | rfl | rfl | rfl <;> rfl)
      rw [Int.toNat_of_nonneg r0] at this
      exact this
    rw [this]; decide
  · rw [z56]; exact ini_at h 127 0 0 (by decide +kernel) (by decide) (by decide)
  · exact ini_0 h 130 (by decide +kernel) (by decide) (by decide) (by decide) x
  · have w1 : ∀ q, q = 131 ∨ q = 185 → m q r = 1 := by
      intro q hq
      have hl : iniL.lookup q = some [1, 1, 1, 1, 1, 1, 1, 1, 1, 1] := by rcases hq with rfl | rfl <;> decide +kernel
      have := rowOK_at (h q (by omega) (by omega)) hl r.toNat 1 (by
        have c : r = 0 ∨ r = 1 ∨ r = 2 ∨ r = 3 ∨ r = 4 ∨ r = 5 ∨ r = 6 ∨ r = 7 ∨ r = 8 ∨ r = 9 := by omega
        rcases c with rfl | rfl | rfl | rfl | rfl | rfl | rfl | rfl | rfl | rfl <;> rfl)
      rw [Int.toNat_of_nonneg r0] at this
      exact this
    rw [w1 131 (by decide), w1 185 (by decide)]
  · exact ini_at h 127 6 0 (by decide +kernel) (by decide) (by decide)
  · rw [z12]; exact ini_at h 0 10 0 (by decide +kernel) (by decide) (by decide)
  · exact ini_at h 11 9 (-1) (by decide +kernel) (by decide) (by decide)
  · have c : s = 0 ∨ s = 1 ∨ s = 2 := by omega
    rcases c with rfl | rfl | rfl <;> exact ini_0 h _ (by decide +kernel) (by decide) (by decide) (by decide) 0
  · have c : s = 0 ∨ s = 1 ∨ s = 2 := by omega
    rcases c with rfl | rfl | rfl <;> exact ini_0 h _ (by decide +kernel) (by decide) (by decide) (by decide) 0
  · have c : s = 0 ∨ s = 1 ∨ s = 2 := by omega
    rcases c with rfl | rfl | rfl <;> exact ini_0 h _ (by decide +kernel) (by decide) (by decide) (by decide) 0
  · have c : s = 0 ∨ s = 1 ∨ s = 2 := by omega
    rcases c with rfl | rfl | rfl <;> exact ini_0 h _ (by decide +kernel) (by decide) (by decide) (by decide) 0
  · have e : m (64 + 14 * s) 0 = 0 := by
      have c : s = 0 ∨ s = 1 ∨ s = 2 := by omega
      rcases c with rfl | rfl | rfl <;> exact ini_at h _ 0 0 (by decide +kernel) (by decide) (by decide)
    rw [e]; exact Int.le_refl _
  · have e : m (64 + 14 * s) 0 = 0 := by
      have c : s = 0 ∨ s = 1 ∨ s = 2 := by omega
      rcases c with rfl | rfl | rfl <;> exact ini_at h _ 0 0 (by decide +kernel) (by decide) (by decide)
    rw [e, st]; exact Int.le_refl _
  · have e : m 106 0 = 0 := ini_at h 106 0 0 (by decide +kernel) (by decide) (by decide)
    rw [e]; exact Int.le_refl _
  · have e : m 106 0 = 0 := ini_at h 106 0 0 (by decide +kernel) (by decide) (by decide)
    rw [e, st]; exact Int.le_refl _
  · have r := h 7 (by decide) (by decide)
    unfold rowOK at r
    rw [show iniL.lookup 7 = none by decide +kernel, if_pos rfl] at r
    exact r
  · have e : m 0 11 = -1 := ini_at h 0 11 (-1) (by decide +kernel) (by decide) (by decide)
    rw [e]
    exact (ini_at h 139 9 (-1) (by decide +kernel) (by decide) (by decide)).symm
