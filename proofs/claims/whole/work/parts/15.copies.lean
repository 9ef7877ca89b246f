/-! rows of the logic: the first n of a row into another; unsigned shift; wide constants -/
def jushr (a b : Int) : Int := ((Int32.ofInt a).toUInt32 >>> ((Int32.ofInt b).toUInt32 &&& Int32.toUInt32 31)).toInt32.toInt
theorem G_iushr {y : jY} {fs sh : jS} {m : jM} {pc : Nat} {ls st : List jV} {Q : Int → jM → Prop} {a b : Int} (hd : decode (jyc y) pc = .ok (.iushr, 1)) (k : G y fs sh m (pc + 1) ls ((0, jushr a b) :: st) Q) : G y fs sh m pc ls ((0, b) :: (0, a) :: st) Q := by
  intro w p l e R s mm args below meth c H locs cells slots c0 s0 Z la C hH hS hL h1 h2 hc hs hfc hfs hret
  refine lv_iushr C.1 C.2.1 hd (j_back _).symm ?_
  exact k w p l e R s mm args below meth c H locs cells slots c0 s0 Z la C hH hS hL h1 (jok_c (j_ok32 _) (jok_t (jok_t h2))) hc hs hfc hfs hret
theorem G_ldc_w {y : jY} {fs sh : jS} {m : jM} {pc : Nat} {ls st : List jV} {Q : Int → jM → Prop} {idx : Nat} {n : Int} (hd : decode (jyc y) pc = .ok (.ldc_w idx, 3)) (hl : Cond.constant (jyn y).cls idx (Int32.ofInt n) ∈ jTbl) (h0 : -2147483648 ≤ n ∧ n ≤ 2147483647) (k : G y fs sh m (pc + 3) ls ((0, n) :: st) Q) : G y fs sh m pc ls st Q := by
  intro w p l e R s mm args below meth c H locs cells slots c0 s0 Z la C hH hS hL h1 h2 hc hs hfc hfs hret
  refine lv_ldcw C.1 C.2.1 C.2.2.2.1 (C.2.2.2.2.1 _ hl) hd ?_
  exact k w p l e R s mm args below meth c H locs cells slots c0 s0 Z la C hH hS hL h1 (jok_c (j_ok0 h0.1 h0.2) h2) hc hs hfc hfs hret
def jCp (own : String) (idx : Nat) : Prop := Cond.methodLink own idx arraycopyName ∈ jTbl ∧ Cond.native arraycopyName ∈ jTbl ∧ Cond.static arraycopyName ∈ jTbl ∧ Cond.initialized "java/lang/System" ∈ jTbl
theorem jcp_words : nativeFrameWords "java/lang/System" "arraycopy" 5 + 11 ≤ 32 := by decide +kernel
theorem j_cn {n : Int} (h0 : 0 ≤ n) (h : n ≤ 2147483647) : (Int32.ofInt n).toNatClampNeg = n.toNat := j_clamp (j_ok0 (by omega) h) h0
theorem j_nneg {n : Int} (h0 : 0 ≤ n) (h : n ≤ 2147483647) : ¬ Int32.ofInt n < 0 := by
  intro q
  have := (j_lt (a := n) (b := 0) (j_ok0 (by omega) h) (j_ok0 (by omega) (by omega))).mp q
  omega
theorem jcopy_fun {f g : Int → Int} {n : Int} (h0 : 0 ≤ n) : va_cpy (fun (i : Nat) => Int32.ofInt (f i)) (fun (i : Nat) => Int32.ofInt (g i)) 0 0 n.toNat = fun (i : Nat) => Int32.ofInt (if 0 ≤ (i : Int) ∧ (i : Int) < n then f i else g i) := by
  funext i
  unfold va_cpy
  by_cases h : i < n.toNat
  · rw [if_pos ⟨Nat.zero_le _, by omega⟩, if_pos ⟨by omega, by omega⟩, Nat.zero_add, Nat.sub_zero]
  · rw [if_neg (fun q => h (by omega)), if_neg (fun q => h (by omega))]
theorem jcopy_ok {w : jW} {sh : jS} {m : jM} {H : Heap} {p q n : Int} {n1 : Nat} (hH : jH w sh m H) (hb : jat sh q 0 n1) (hs : ∀ i : Nat, (i : Int) < n → jokv (0, m p i)) : ∀ i : Nat, i < n1 → jokv (jkt 0 i, jcopy m p q n q i) := by
  intro i hi
  show jokv (0, if q = q ∧ 0 ≤ (i : Int) ∧ (i : Int) < n then m p i else m q i)
  by_cases h : (i : Int) < n
  · rw [if_pos ⟨rfl, by omega, h⟩]
    exact hs i h
  · rw [if_neg (fun z => h z.2.2)]
    have := jH_ok hH hb (i := (i : Int)) (by omega) (by omega)
    simpa [jkt] using this
theorem jcopy_ne {m : jM} {p q n a : Int} (h : a ≠ q) : jcopy m p q n a = m a := by
  funext i
  simp [jcopy, h]
section
variable {y : jY} {fs sh : jS} {m : jM} {pc : Nat} {ls st : List jV} {Q : Int → jM → Prop}
theorem G_copyi {idx : Nat} {p q n : Int} {n0 n1 : Nat} (hd : decode (jyc y) pc = .ok (.invokestatic idx, 3)) (hl : jCp (jyn y).cls idx) (ha : jat sh p 0 n0) (hb : jat sh q 0 n1) (h4 : 0 ≤ n ∧ n ≤ n0) (h5 : n ≤ n1) (hcat : jcats st ≤ 8) (k : G y fs sh (jcopy m p q n) (pc + 3) ls st Q) : G y fs sh m pc ls ((0, n) :: (0, 0) :: (2, q) :: (0, 0) :: (2, p) :: st) Q := by
  intro w pr l e R s mm args below meth c H locs cells slots c0 s0 Z la C hH hS hL h1 h2 hc hs hfc hfs hret
  have r1 : jyh y + 1 ≤ R.frames := C.2.2.2.2.2.2.2.1
  have r2 : 45 * jyh y + 40 ≤ R.locals := C.2.2.2.2.2.2.2.2.1
  have hts := C.2.2.2.2.1
  have hK : va_K w.2.2.2.1 jCl (jtys w) s := C.2.2.2.2.2.1
  have hcc := jcats_ok (w := w) st
  have hn := (jok_h h2).1 rfl
  simp only at hn
  have cn := j_cn h4.1 hn.2
  have cz : (Int32.ofInt 0).toNatClampNeg = 0 := by decide
  show W pr l e R s mm args below meth c H locs cells slots Z (F0 mm pc la (.int (Int32.ofInt n) :: .int (Int32.ofInt 0) :: jcv w (2, q) :: .int (Int32.ofInt 0) :: jcv w (2, p) :: st.map (jcv w)))
  rw [jcv_p ha.1, jcv_p hb.1]
  have x0 : H[w.1 + p.toNat]? = some (vp_cell (w.2.2.1 0) (n0, .inl (fun (i : Nat) => Int32.ofInt (m p i)))) := hH.2.1 p.toNat _ (jws_p ha)
  have x1 : H[w.1 + q.toNat]? = some (vp_cell (w.2.2.1 0) (n1, .inl (fun (i : Nat) => Int32.ofInt (m q i)))) := hH.2.1 q.toNat _ (jws_p hb)
  obtain ⟨-, k0, hk0, cm0, hkk0⟩ := (hK.2 0 _ rfl).1 n0 (fun (i : Nat) => .int (Int32.ofInt (m p i)))
  obtain ⟨-, k1, hk1, cm1, hkk1⟩ := (hK.2 0 _ rfl).1 n1 (fun (i : Nat) => .int (Int32.ofInt (m q i)))
  intro T hT X
  obtain ⟨vm', X', step⟩ := X.arraycopy C.1 C.2.2.2.1 (hts _ hl.1) (hts _ hl.2.1) (hts _ hl.2.2.1) (hts _ hl.2.2.2) (src := w.1 + p.toNat) (dst := w.1 + q.toNat) (cs := vp_cell (w.2.2.1 0) (n0, .inl (fun (i : Nat) => Int32.ofInt (m p i)))) (cd := vp_cell (w.2.2.1 0) (n1, .inl (fun (i : Nat) => Int32.ofInt (m q i)))) (srcPos := Int32.ofInt 0) (destPos := Int32.ofInt 0) (n := Int32.ofInt n) (by rw [hT]; exact x0) (by rw [hT]; exact x1)
    (fun _ h => by cases h) (fun _ h => by cases h) (fun h => by cases h) (fun h => by cases h) hk0 hk1 hkk0 hkk1 (by simp [refKind]) (by decide) (by decide) (j_nneg h4.1 hn.2)
    (by rw [j_i (jok_h h2)]; show ¬ _ > ((arrV (w.2.2.1 0) n0 (fun j => .int (Int32.ofInt (m p j)))).slots.size : Int); rw [arrV_size]; show ¬ (0 : Int) + n > _; omega)
    (by rw [j_i (jok_h h2)]; show ¬ _ > ((arrV (w.2.2.1 0) n1 (fun j => .int (Int32.ofInt (m q j)))).slots.size : Int); rw [arrV_size]; show ¬ (0 : Int) + n > _; omega)
    (fun vm₁ _ i hi => by
      have e : (vp_cell (w.2.2.1 0) (n0, .inl (fun (i : Nat) => Int32.ofInt (m p i)))).slots.getD ((Int32.ofInt 0).toNatClampNeg + i) .null = .int (Int32.ofInt (m p ((0 + i : Nat) : Int))) := by
        show (arrV (w.2.2.1 0) n0 (fun j => .int (Int32.ofInt (m p j)))).slots.getD _ _ = _
        rw [cn] at hi
        rw [cz, Array.getD_eq_getD_getElem?, arrV_read _ _ (by omega)]
        rfl
      exact ⟨by rw [e]; rfl, by rw [e]; exact trivial⟩)
    (g := F0 mm pc la (.int (Int32.ofInt n) :: .int (Int32.ofInt 0) :: .ref (w.1 + q.toNat) :: .int (Int32.ofInt 0) :: .ref (w.1 + p.toNat) :: st.map (jcv w))) rfl (by rw [C.2.2.1, hL.2.1]) (rest := st.map (jcv w)) rfl (by rw [C.2.1]; exact hd) (by omega) (by have := jcp_words; show 2 * 0 + _ + _ ≤ _; omega)
  have e1 : copied (vp_cell (w.2.2.1 0) (n0, .inl (fun (i : Nat) => Int32.ofInt (m p i)))) (vp_cell (w.2.2.1 0) (n1, .inl (fun (i : Nat) => Int32.ofInt (m q i)))) (Int32.ofInt 0) (Int32.ofInt 0) (Int32.ofInt n) = vp_cell (w.2.2.1 0) (n1, .inl (fun (i : Nat) => Int32.ofInt (jcopy m p q n q i))) := by
    refine (va_copied (n0 := n0) (n1 := n1) (sp := (Int32.ofInt 0).toNatClampNeg) (dp := (Int32.ofInt 0).toNatClampNeg) (n := (Int32.ofInt n).toNatClampNeg) (fun z => .int z) (w.2.2.1 0) (w.2.2.1 0) (fun (i : Nat) => Int32.ofInt (m p i)) (fun (i : Nat) => Int32.ofInt (m q i)) (by rw [cn, cz]; omega)).trans ?_
    rw [cn, cz, jcopy_fun h4.1]
    simp only [jcopy, true_and]
    rfl
  rw [e1] at X' step
  have hlt : w.1 + q.toNat < H.size := (Array.getElem?_eq_some_iff.mp x1).1
  have hH' : jH w sh (jcopy m p q n) (H.setIfInBounds (w.1 + q.toNat) (vp_cell (w.2.2.1 0) (n1, .inl (fun (i : Nat) => Int32.ofInt (jcopy m p q n q i))))) := by
    refine jH_put hH hb (by simp) (fun z hz => by simp [Array.getElem?_setIfInBounds, Ne.symm hz]) ?_ (fun a h => jcopy_ne h) (jcopy_ok hH hb (fun i hi => ?_))
    · show (H.setIfInBounds (w.1 + q.toNat) _)[w.1 + q.toNat]? = some _
      simp [Array.getElem?_setIfInBounds, hlt]
    · have := jH_ok hH ha (i := (i : Int)) (by omega) (by omega)
      simpa [jkt] using this
  obtain ⟨t, a1, b1⟩ := k w pr l e R s mm args below meth c _ _ cells slots c0 s0 Z la C hH' ⟨by simpa using hS.1, fun z g1 g2 => by
      have : z ≠ w.1 + q.toNat := fun e => g2 (by show w.1 ≤ z; omega)
      simp only [Array.getElem?_setIfInBounds, Ne.symm this, if_false]
      exact hS.2.1 z g1 g2, fun z hz => by
      rcases List.mem_append.mp hz with h | h
      · exact hS.2.2 z h
      · obtain ⟨z', -, hz'⟩ := List.mem_map.mp h
        rw [← hz']
        exact Nat.le_add_right _ _⟩ hL h1 (jok_t (jok_t (jok_t (jok_t (jok_t h2))))) hc hs hfc hfs hret _ (by rw [← hT]; rfl) X'
  exact ⟨t, step t a1, b1⟩
theorem G_copyx {idx : Nat} {p q n : Int} {n1 : Nat} (hd : decode (jyc y) pc = .ok (.invokestatic idx, 3)) (hl : jCp (jyn y).cls idx) (hp : p = -2 ∨ p = -3) (hb : jat sh q 0 n1) (hx : m p (-1) = n) (h5 : n ≤ n1) (hcat : jcats st ≤ 8) (k : G y fs sh (jcopy m p q n) (pc + 3) ls st Q) : G y fs sh m pc ls ((0, n) :: (0, 0) :: (2, q) :: (0, 0) :: (2, p) :: st) Q := by
  intro w pr l e R s mm args below meth c H locs cells slots c0 s0 Z la C hH hS hL h1 h2 hc hs hfc hfs hret
  have r1 : jyh y + 1 ≤ R.frames := C.2.2.2.2.2.2.2.1
  have r2 : 45 * jyh y + 40 ≤ R.locals := C.2.2.2.2.2.2.2.2.1
  have hts := C.2.2.2.2.1
  have hK : va_K w.2.2.2.1 jCl (jtys w) s := C.2.2.2.2.2.1
  have hcc := jcats_ok (w := w) st
  have hX : jX w s := C.2.2.2.2.2.2.1
  have hXa : jXa w p s := by
    rcases hp with rfl | rfl
    · exact hX.2.1
    · exact hX.2.2.1
  have hmp : m p = w.2.2.2.2 p := hH.2.2.2 p (by omega)
  obtain ⟨xb, ⟨scr, hs1, ⟨hs6, k0, hk0, cm0, hkk0⟩, hs3, hs4, hs5⟩, xl, xo⟩ := hXa
  have hn := (jok_h h2).1 rfl
  simp only at hn
  have h40 : 0 ≤ n := by rw [← hx, hmp]; exact xl.1
  have hlen : (w.2.2.2.2 p (-1)).toNat = n.toNat := by rw [← hx, hmp]
  have cn := j_cn h40 hn.2
  have cz : (Int32.ofInt 0).toNatClampNeg = 0 := by decide
  show W pr l e R s mm args below meth c H locs cells slots Z (F0 mm pc la (.int (Int32.ofInt n) :: .int (Int32.ofInt 0) :: jcv w (2, q) :: .int (Int32.ofInt 0) :: jcv w (2, p) :: st.map (jcv w)))
  rw [jcv_p hb.1, jcv_x (p := p) (by omega)]
  have x0 : H[w.2.1 p]? = some scr := by rw [hS.2.1 (w.2.1 p) (Nat.lt_of_lt_of_le xb hX.1) (Nat.not_le.mpr xb)]; exact hs1
  have x1 : H[w.1 + q.toNat]? = some (vp_cell (w.2.2.1 0) (n1, .inl (fun (i : Nat) => Int32.ofInt (m q i)))) := hH.2.1 q.toNat _ (jws_p hb)
  obtain ⟨-, k1, hk1, cm1, hkk1⟩ := (hK.2 0 _ rfl).1 n1 (fun (i : Nat) => .int (Int32.ofInt (m q i)))
  intro T hT X
  obtain ⟨vm', X', step⟩ := X.arraycopy C.1 C.2.2.2.1 (hts _ hl.1) (hts _ hl.2.1) (hts _ hl.2.2.1) (hts _ hl.2.2.2) (src := w.2.1 p) (dst := w.1 + q.toNat) (cs := scr) (cd := vp_cell (w.2.2.1 0) (n1, .inl (fun (i : Nat) => Int32.ofInt (m q i)))) (srcPos := Int32.ofInt 0) (destPos := Int32.ofInt 0) (n := Int32.ofInt n) (by rw [hT]; exact x0) (by rw [hT]; exact x1)
    hs6 (fun _ h => by cases h) hs3 (fun h => by cases h) hk0 hk1 hkk0 hkk1 (by simp [refKind]) (by decide) (by decide) (j_nneg h40 hn.2)
    (by rw [j_i (jok_h h2), hs4, hlen]; show ¬ (0 : Int) + n > _; omega)
    (by rw [j_i (jok_h h2)]; show ¬ _ > ((arrV (w.2.2.1 0) n1 (fun j => .int (Int32.ofInt (m q j)))).slots.size : Int); rw [arrV_size]; show ¬ (0 : Int) + n > _; omega)
    (fun vm₁ _ i hi => by
      rw [cn] at hi
      have e : scr.slots.getD ((Int32.ofInt 0).toNatClampNeg + i) .null = .int (Int32.ofInt (w.2.2.2.2 p ((0 + i : Nat) : Int))) := by
        rw [cz, Array.getD_eq_getD_getElem?, hs5 (0 + i) (by omega)]
        rfl
      exact ⟨by rw [e]; rfl, by rw [e]; exact trivial⟩)
    (g := F0 mm pc la (.int (Int32.ofInt n) :: .int (Int32.ofInt 0) :: .ref (w.1 + q.toNat) :: .int (Int32.ofInt 0) :: .ref (w.2.1 p) :: st.map (jcv w))) rfl (by rw [C.2.2.1, hL.2.1]) (rest := st.map (jcv w)) rfl (by rw [C.2.1]; exact hd) (by omega) (by have := jcp_words; show 2 * 0 + _ + _ ≤ _; omega)
  have e1 : copied scr (vp_cell (w.2.2.1 0) (n1, .inl (fun (i : Nat) => Int32.ofInt (m q i)))) (Int32.ofInt 0) (Int32.ofInt 0) (Int32.ofInt n) = vp_cell (w.2.2.1 0) (n1, .inl (fun (i : Nat) => Int32.ofInt (jcopy m p q n q i))) := by
    refine (va_copiedX (n0 := n.toNat) (n1 := n1) (sp := (Int32.ofInt 0).toNatClampNeg) (dp := (Int32.ofInt 0).toNatClampNeg) (n := (Int32.ofInt n).toNatClampNeg) (fun z => .int z) scr (w.2.2.1 0) (fun (i : Nat) => Int32.ofInt (w.2.2.2.2 p i)) (fun (i : Nat) => Int32.ofInt (m q i)) (fun j hj => hs5 j (by omega)) (by rw [cn, cz]; omega)).trans ?_
    rw [cn, cz, jcopy_fun h40]
    simp only [jcopy, true_and, hmp]
    rfl
  rw [e1] at X' step
  have hlt : w.1 + q.toNat < H.size := (Array.getElem?_eq_some_iff.mp x1).1
  have hH' : jH w sh (jcopy m p q n) (H.setIfInBounds (w.1 + q.toNat) (vp_cell (w.2.2.1 0) (n1, .inl (fun (i : Nat) => Int32.ofInt (jcopy m p q n q i))))) := by
    refine jH_put hH hb (by simp) (fun z hz => by simp [Array.getElem?_setIfInBounds, Ne.symm hz]) ?_ (fun a h => jcopy_ne h) (jcopy_ok hH hb (fun i hi => by rw [hmp]; exact xo i))
    show (H.setIfInBounds (w.1 + q.toNat) _)[w.1 + q.toNat]? = some _
    simp [Array.getElem?_setIfInBounds, hlt]
  obtain ⟨t, a1, b1⟩ := k w pr l e R s mm args below meth c _ _ cells slots c0 s0 Z la C hH' ⟨by simpa using hS.1, fun z g1 g2 => by
      have : z ≠ w.1 + q.toNat := fun e => g2 (by show w.1 ≤ z; omega)
      simp only [Array.getElem?_setIfInBounds, Ne.symm this, if_false]
      exact hS.2.1 z g1 g2, fun z hz => by
      rcases List.mem_append.mp hz with h | h
      · exact hS.2.2 z h
      · obtain ⟨z', -, hz'⟩ := List.mem_map.mp h
        rw [← hz']
        exact Nat.le_add_right _ _⟩ hL h1 (jok_t (jok_t (jok_t (jok_t (jok_t h2))))) hc hs hfc hfs hret _ (by rw [← hT]; rfl) X'
  exact ⟨t, step t a1, b1⟩
end
theorem jwk_n : jwk [] [] := trivial
theorem jwk_s {a : jV} {l l' : List jV} (h : jwk l l') : jwk (a :: l) (a :: l') := ⟨Or.inl rfl, h⟩
theorem jwk_d {a : jV} {l l' : List jV} (h : jwk l l') : jwk (a :: l) ((9, 0) :: l') := ⟨Or.inr rfl, h⟩
theorem G_swE {y : jY} {fs sh : jS} {m : jM} {pc : Nat} {ls st : List jV} {Q : Int → jM → Prop} {dflt lo hi off : Int} {offs : Array Int} {len : Nat} {x v : Int} (t : Nat) (hd : decode (jyc y) pc = .ok (.tableswitch dflt lo hi offs, len)) (hx : x = v) (hlo : lo ≤ v) (hhi : v ≤ hi) (ho : offs[(v - lo).toNat]? = some off) (ht : (pc : Int) + off = (t : Int)) (k : G y fs sh m t ls st Q) : G y fs sh m pc ls ((0, x) :: st) Q := by
  subst hx
  exact G_swIn t hd hlo hhi ho ht k
