/-! rows of the logic: fields, arrays, cells made -/
theorem jinX0 : ∀ q ∈ u_ws RX0 TX0 7, q ∈ jTbl := by
  have h : u_ws RX0 TX0 7 = ([722, 724, 726, 728, 730, 732, 734] : List Nat).filterMap (fun i => lw_tbl[i]?) := by decide +kernel
  have h2 : (u_ws RX0 TX0 7).all goodWord = true := by decide +kernel
  intro q hq
  have h3 := List.all_eq_true.mp h2 q hq
  rw [h] at hq
  obtain ⟨i, -, hi⟩ := List.mem_filterMap.mp hq
  exact List.mem_filter.mpr ⟨List.mem_of_getElem? hi, h3⟩
theorem jinX1 : ∀ q ∈ u_ws RX1 TX1 9, q ∈ jTbl := by
  have h : u_ws RX1 TX1 9 = ([356, 358, 360, 362, 364, 366, 368, 370, 372] : List Nat).filterMap (fun i => lw_tbl[i]?) := by decide +kernel
  have h2 : (u_ws RX1 TX1 9).all goodWord = true := by decide +kernel
  intro q hq
  have h3 := List.all_eq_true.mp h2 q hq
  rw [h] at hq
  obtain ⟨i, -, hi⟩ := List.mem_filterMap.mp hq
  exact List.mem_filter.mpr ⟨List.mem_of_getElem? hi, h3⟩
theorem jinX2 : ∀ q ∈ u_ws RX2 TX2 18, q ∈ jTbl := by
  have h : u_ws RX2 TX2 18 = ([631, 633, 635, 637, 639, 641, 643, 645, 647, 649, 651, 653, 655, 657, 659, 661, 663, 665] : List Nat).filterMap (fun i => lw_tbl[i]?) := by decide +kernel
  have h2 : (u_ws RX2 TX2 18).all goodWord = true := by decide +kernel
  intro q hq
  have h3 := List.all_eq_true.mp h2 q hq
  rw [h] at hq
  obtain ⟨i, -, hi⟩ := List.mem_filterMap.mp hq
  exact List.mem_filter.mpr ⟨List.mem_of_getElem? hi, h3⟩
theorem jinX3 : ∀ q ∈ u_ws RX3 TX3 18, q ∈ jTbl := by
  have h : u_ws RX3 TX3 18 = ([566, 568, 570, 572, 574, 576, 578, 580, 582, 584, 586, 588, 590, 592, 594, 596, 598, 600] : List Nat).filterMap (fun i => lw_tbl[i]?) := by decide +kernel
  have h2 : (u_ws RX3 TX3 18).all goodWord = true := by decide +kernel
  intro q hq
  have h3 := List.all_eq_true.mp h2 q hq
  rw [h] at hq
  obtain ⟨i, -, hi⟩ := List.mem_filterMap.mp hq
  exact List.mem_filter.mpr ⟨List.mem_of_getElem? hi, h3⟩
theorem jinX4 : ∀ q ∈ u_ws RX4 TX4 15, q ∈ jTbl := by
  have h : u_ws RX4 TX4 15 = ([288, 290, 292, 294, 296, 298, 300, 302, 304, 306, 308, 310, 312, 314, 316] : List Nat).filterMap (fun i => lw_tbl[i]?) := by decide +kernel
  have h2 : (u_ws RX4 TX4 15).all goodWord = true := by decide +kernel
  intro q hq
  have h3 := List.all_eq_true.mp h2 q hq
  rw [h] at hq
  obtain ⟨i, -, hi⟩ := List.mem_filterMap.mp hq
  exact List.mem_filter.mpr ⟨List.mem_of_getElem? hi, h3⟩
theorem jinX5 : ∀ q ∈ u_ws RX5 TX5 6, q ∈ jTbl := by
  have h : u_ws RX5 TX5 6 = ([751, 753, 755, 757, 759, 761] : List Nat).filterMap (fun i => lw_tbl[i]?) := by decide +kernel
  have h2 : (u_ws RX5 TX5 6).all goodWord = true := by decide +kernel
  intro q hq
  have h3 := List.all_eq_true.mp h2 q hq
  rw [h] at hq
  obtain ⟨i, -, hi⟩ := List.mem_filterMap.mp hq
  exact List.mem_filter.mpr ⟨List.mem_of_getElem? hi, h3⟩
theorem jinX6 : ∀ q ∈ u_ws RX6 TX6 6, q ∈ jTbl := by
  have h : u_ws RX6 TX6 6 = ([254, 256, 258, 260, 262, 264] : List Nat).filterMap (fun i => lw_tbl[i]?) := by decide +kernel
  have h2 : (u_ws RX6 TX6 6).all goodWord = true := by decide +kernel
  intro q hq
  have h3 := List.all_eq_true.mp h2 q hq
  rw [h] at hq
  obtain ⟨i, -, hi⟩ := List.mem_filterMap.mp hq
  exact List.mem_filter.mpr ⟨List.mem_of_getElem? hi, h3⟩
theorem jinX7 : ∀ q ∈ u_ws RX7 TX7 9, q ∈ jTbl := by
  have h : u_ws RX7 TX7 9 = ([685, 687, 689, 691, 693, 695, 697, 699, 701] : List Nat).filterMap (fun i => lw_tbl[i]?) := by decide +kernel
  have h2 : (u_ws RX7 TX7 9).all goodWord = true := by decide +kernel
  intro q hq
  have h3 := List.all_eq_true.mp h2 q hq
  rw [h] at hq
  obtain ⟨i, -, hi⟩ := List.mem_filterMap.mp hq
  exact List.mem_filter.mpr ⟨List.mem_of_getElem? hi, h3⟩
theorem jinX8 : ∀ q ∈ u_ws RX8 TX8 19, q ∈ jTbl := by
  have h : u_ws RX8 TX8 19 = ([433, 435, 437, 439, 441, 443, 445, 447, 449, 451, 453, 455, 457, 459, 461, 463, 465, 467, 469] : List Nat).filterMap (fun i => lw_tbl[i]?) := by decide +kernel
  have h2 : (u_ws RX8 TX8 19).all goodWord = true := by decide +kernel
  intro q hq
  have h3 := List.all_eq_true.mp h2 q hq
  rw [h] at hq
  obtain ⟨i, -, hi⟩ := List.mem_filterMap.mp hq
  exact List.mem_filter.mpr ⟨List.mem_of_getElem? hi, h3⟩
theorem jinX9 : ∀ q ∈ u_ws RX9 TX9 15, q ∈ jTbl := by
  have h : u_ws RX9 TX9 15 = ([500, 502, 504, 506, 508, 510, 512, 514, 516, 518, 520, 522, 524, 526, 528] : List Nat).filterMap (fun i => lw_tbl[i]?) := by decide +kernel
  have h2 : (u_ws RX9 TX9 15).all goodWord = true := by decide +kernel
  intro q hq
  have h3 := List.all_eq_true.mp h2 q hq
  rw [h] at hq
  obtain ⟨i, -, hi⟩ := List.mem_filterMap.mp hq
  exact List.mem_filter.mpr ⟨List.mem_of_getElem? hi, h3⟩
theorem jinX10 : ∀ q ∈ u_ws RX10 TX10 14, q ∈ jTbl := by
  have h : u_ws RX10 TX10 14 = ([778, 780, 782, 784, 786, 788, 790, 792, 794, 796, 798, 800, 802, 804] : List Nat).filterMap (fun i => lw_tbl[i]?) := by decide +kernel
  have h2 : (u_ws RX10 TX10 14).all goodWord = true := by decide +kernel
  intro q hq
  have h3 := List.all_eq_true.mp h2 q hq
  rw [h] at hq
  obtain ⟨i, -, hi⟩ := List.mem_filterMap.mp hq
  exact List.mem_filter.mpr ⟨List.mem_of_getElem? hi, h3⟩
theorem jinX11 : ∀ q ∈ u_ws RX11 TX11 105, q ∈ jTbl := by
  have h : u_ws RX11 TX11 105 = ([1661, 1663, 1665, 1667, 1669, 1671, 1673, 1675, 1677, 1679, 1681, 1683, 1685, 1687, 1689, 1691, 1693, 1695, 1697, 1699, 1701, 1703, 1705, 1707, 1709, 1711, 1713, 1715, 1717, 1719, 1721, 1723, 1725, 1727, 1729, 1731, 1733, 1735, 1737, 1739, 1741, 1743, 1745, 1747, 1749, 1751, 1753, 1755, 1757, 1759, 1761, 1763, 1765, 1767, 1769, 1771, 1773, 1775, 1777, 1779, 1781, 1783, 1785, 1787, 1789, 1791, 1793, 1795, 1797, 1799, 1801, 1803, 1805, 1807, 1809, 1811, 1813, 1815, 1817, 1819, 1821, 1823, 1825, 1827, 1829, 1831, 1833, 1835, 1837, 1839, 1841, 1843, 1845, 1847, 1849, 1851, 1853, 1855, 1857, 1859, 1861, 1863, 1865, 1867, 1869] : List Nat).filterMap (fun i => lw_tbl[i]?) := by decide +kernel
  have h2 : (u_ws RX11 TX11 105).all goodWord = true := by decide +kernel
  intro q hq
  have h3 := List.all_eq_true.mp h2 q hq
  rw [h] at hq
  obtain ⟨i, -, hi⟩ := List.mem_filterMap.mp hq
  exact List.mem_filter.mpr ⟨List.mem_of_getElem? hi, h3⟩
theorem jcl_ok : ∀ (ci : Nat) (C : String) (T : u_T) (N : Nat), jCl[ci]? = some (C, T, N) → (∀ q ∈ u_ws C T N, q ∈ jTbl) ∧ (∀ k, k < N → parseFieldDescriptor (T k).2.2.1 = some (jty ci k)) ∧ (∀ a, a < N → ∀ b, b < N → a ≠ b → (T a).2.1 ≠ (T b).2.1) := by
  intro ci C T N h
  match ci, h with
  | 0, h => cases h; exact ⟨jinX0, tyX0_ok, nmX0⟩
  | 1, h => cases h; exact ⟨jinX1, tyX1_ok, nmX1⟩
  | 2, h => cases h; exact ⟨jinX2, tyX2_ok, nmX2⟩
  | 3, h => cases h; exact ⟨jinX3, tyX3_ok, nmX3⟩
  | 4, h => cases h; exact ⟨jinX4, tyX4_ok, nmX4⟩
  | 5, h => cases h; exact ⟨jinX5, tyX5_ok, nmX5⟩
  | 6, h => cases h; exact ⟨jinX6, tyX6_ok, nmX6⟩
  | 7, h => cases h; exact ⟨jinX7, tyX7_ok, nmX7⟩
  | 8, h => cases h; exact ⟨jinX8, tyX8_ok, nmX8⟩
  | 9, h => cases h; exact ⟨jinX9, tyX9_ok, nmX9⟩
  | 10, h => cases h; exact ⟨jinX10, tyX10_ok, nmX10⟩
  | 11, h => cases h; exact ⟨jinX11, tyX11_ok, nmX11⟩
  | n + 12, h => simp [jCl] at h
def jat (sh : jS) (p : Int) (kd n : Nat) : Prop := 0 ≤ p ∧ sh[p.toNat]? = some (kd, n)
def jup (m : jM) (p i x : Int) : jM := fun q j => if q = p ∧ j = i then x else m q j
theorem jup_ne {m : jM} {p i x q : Int} (h : q ≠ p) : jup m p i x q = m q := by
  funext j
  simp [jup, h]
theorem jup_s {m : jM} {p i x : Int} : jup m p i x p i = x := by simp [jup]
theorem jup_j {m : jM} {p i x j : Int} (h : j ≠ i) : jup m p i x p j = m p j := by simp [jup, h]
theorem j_cast {p : Int} (h : 0 ≤ p) : ((p.toNat : Nat) : Int) = p := Int.toNat_of_nonneg h
theorem jws_p {w : jW} {sh : jS} {m : jM} {p : Int} {kd n : Nat} (h : jat sh p kd n) : (jws w sh m)[p.toNat]? = some (w.1 + p.toNat, jE w (kd, n) (m p)) := by
  rw [jws_at h.2, j_cast h.1]
theorem jad_p {w : jW} {p : Int} (h : 0 ≤ p) : jad w p = w.1 + p.toNat := by simp [jad, h]
theorem jcv_p {w : jW} {p : Int} (h : 0 ≤ p) : jcv w (2, p) = .ref (w.1 + p.toNat) := by
  have h1 : p ≠ -1 := by omega
  simp [jcv, h1, jad_p h]
theorem jcv_x {w : jW} {p : Int} (h : p < -1) : jcv w (2, p) = .ref (w.2.1 p) := by
  have h1 : p ≠ -1 := by omega
  have h2 : ¬ 0 ≤ p := by omega
  simp [jcv, h1, jad, h2]
theorem jE_obj (w : jW) (ci n : Nat) (f : Int → Int) : jE w (ci + 10, n) f = .inr (ci, (List.range n).map (fun (i : Nat) => jcv w (jtag (jty ci i), f i))) := rfl
theorem jkt_obj (ci i : Nat) : jkt (ci + 10) i = jtag (jty ci i) := rfl
/-- one cell was written -/
theorem jH_put {w : jW} {sh : jS} {m m' : jM} {H H' : Heap} {p : Int} {kd n : Nat} (hH : jH w sh m H) (ha : jat sh p kd n) (z : H'.size = H.size) (oq : ∀ q : Nat, q ≠ w.1 + p.toNat → H'[q]? = H[q]?) (he : va_at w.2.2.2.1 jCl (w.1 + p.toNat, jE w (kd, n) (m' p)) H') (hm : ∀ q, q ≠ p → m' q = m q) (hok : ∀ i : Nat, i < n → jokv (jkt kd i, m' p i)) : jH w sh m' H' := by
  obtain ⟨hz, hP, hok0, hx⟩ := hH
  refine ⟨z.trans hz, fun k q hk => ?_, fun k q hk i hi => ?_, fun q hq => ?_⟩
  · obtain ⟨q', h1, rfl⟩ := jws_some hk
    by_cases e : k = p.toNat
    · subst e
      rw [ha.2] at h1
      cases h1
      rw [j_cast ha.1]
      exact he
    · have hkp : (k : Int) ≠ p := fun h => e (by rw [← h]; rfl)
      rw [hm _ hkp]
      exact (hP k _ (jws_at h1)).kept (oq _ (by simp only; omega))
  · by_cases e : k = p.toNat
    · subst e
      rw [ha.2] at hk
      cases hk
      rw [j_cast ha.1]
      exact hok i hi
    · have hkp : (k : Int) ≠ p := fun h => e (by rw [← h]; rfl)
      rw [hm _ hkp]
      exact hok0 k q hk i hi
  · rw [hm q (by have := ha.1; omega)]
    exact hx q hq
theorem jH_ok {w : jW} {sh : jS} {m : jM} {H : Heap} {p : Int} {kd n : Nat} (hH : jH w sh m H) (ha : jat sh p kd n) {i : Int} (h0 : 0 ≤ i) (hi : i < n) : jokv (jkt kd i.toNat, m p i) := by
  have h := hH.2.2.1 p.toNat _ ha.2 i.toNat (by simp only; omega)
  rwa [j_cast ha.1, j_cast h0] at h
theorem jup_ok {w : jW} {sh : jS} {m : jM} {H : Heap} {p : Int} {kd n : Nat} (hH : jH w sh m H) (ha : jat sh p kd n) {i x : Int} (hx : jokv (jkt kd i.toNat, x)) : ∀ j : Nat, j < n → jokv (jkt kd j, jup m p i x p j) := by
  intro j hj
  by_cases e : (j : Int) = i
  · subst e
    rw [jup_s]
    exact hx
  · rw [jup_j e]
    have := jH_ok hH ha (i := j) (by omega) (by omega)
    simpa using this
/-- the field's words of one instruction: class of the code, pool entry, class and number of the field, its tag -/
def jFL (own : String) (idx ci : Nat) (k : Int) (tag : Nat) : Prop := ∃ (C : String) (T : u_T) (N : Nat), jCl[ci]? = some (C, T, N) ∧ 0 ≤ k ∧ k.toNat < N ∧ Cond.fieldLink own idx (T k.toNat).1 (T k.toNat).2.1 (T k.toNat).2.2.1 ∈ jTbl ∧ jtag (jty ci k.toNat) = tag
theorem G_getf {y : jY} {fs sh : jS} {m : jM} {pc : Nat} {ls st : List jV} {Q : Int → jM → Prop} {idx ci tag n : Nat} {f p : Int} (hd : decode (jyc y) pc = .ok (.getfield idx, 3)) (hl : jFL (jyn y).cls idx ci f tag) (ha : jat sh p (ci + 10) n) (hn : f < n) (k : G y fs sh m (pc + 3) ls ((tag, m p f) :: st) Q) : G y fs sh m pc ls ((2, p) :: st) Q := by
  intro w pr l e R s mm args below meth c H locs cells slots c0 s0 Z la C hH hS hL h1 h2 hc hs hfc hfs hret
  obtain ⟨C0, T, N, g1, g0, g2, g3, g4⟩ := hl
  obtain ⟨q1, q2, q3⟩ := jcl_ok _ _ _ _ g1
  have hK : va_K w.2.2.2.1 jCl (jtys w) s := C.2.2.2.2.2.1
  show W pr l e R s mm args below meth c H locs cells slots Z (F0 mm pc la (jcv w (2, p) :: st.map (jcv w)))
  rw [jcv_p ha.1]
  refine va_get (D := w.2.2.2.1) (ci := ci) (C := C0) (T := T) (N := N) (v := jcv w (tag, m p f)) (fs := (List.range n).map (fun (i : Nat) => jcv w (jtag (jty ci i), m p i))) C.1 C.2.1 C.2.2.2.2.1 q1 C.2.2.2.1 hK hH.2.1 p.toNat (jws_p ha) g1 f.toNat g2 (C.2.2.2.2.1 _ g3) (fun _ h => h) ?_ hd ?_
  · rw [List.getElem?_map, List.getElem?_range (by omega)]
    simp [g4, j_cast g0]
  · have hok := jH_ok hH ha g0 hn
    rw [jkt_obj, g4] at hok
    exact k w pr l e R s mm args below meth c H locs cells slots c0 s0 Z la C hH hS hL h1 (jok_c hok (jok_t h2)) hc hs hfc hfs hret
def jfit (ty : FieldType) (x : Int) : Prop := match ty with
  | .boolean => x = 0 ∨ x = 1
  | .int => True
  | .long => True
  | .array _ => True
  | .object _ => True
  | _ => False
theorem jfit_ok {w : jW} {ty : FieldType} {x : Int} (h : jfit ty x) : narrow ty (jcv w (jtag ty, x)) = jcv w (jtag ty, x) ∧ fits ty (jcv w (jtag ty, x)) = true := by
  cases ty with
  | boolean =>
    rcases h with rfl | rfl
    · exact ⟨(by decide +kernel : narrow .boolean (.int (Int32.ofInt 0)) = .int (Int32.ofInt 0)), (by decide +kernel : fits .boolean (.int (Int32.ofInt 0)) = true)⟩
    · exact ⟨(by decide +kernel : narrow .boolean (.int (Int32.ofInt 1)) = .int (Int32.ofInt 1)), (by decide +kernel : fits .boolean (.int (Int32.ofInt 1)) = true)⟩
  | int => exact ⟨rfl, rfl⟩
  | long => exact ⟨rfl, rfl⟩
  | array t =>
    by_cases hx : x = -1
    · simp [jtag, jcv, hx, narrow, fits]
    · simp [jtag, jcv, hx, narrow, fits]
  | object t =>
    by_cases hx : x = -1
    · simp [jtag, jcv, hx, narrow, fits]
    · simp [jtag, jcv, hx, narrow, fits]
  | _ => exact h.elim
theorem jset_list {w : jW} {ci n : Nat} {m : jM} {p f x : Int} (g0 : 0 ≤ f) (hn : f < n) : ((List.range n).map (fun (i : Nat) => jcv w (jtag (jty ci i), m p i))).set f.toNat (jcv w (jtag (jty ci f.toNat), x)) = (List.range n).map (fun (i : Nat) => jcv w (jtag (jty ci i), jup m p f x p i)) := by
  apply List.ext_getElem (by simp)
  intro i h1 h2
  rw [List.getElem_set]
  simp only [List.getElem_map, List.getElem_range]
  by_cases hi : f.toNat = i
  · subst hi
    rw [if_pos rfl, j_cast g0, jup_s]
  · rw [if_neg hi, jup_j (by omega)]
def jFfin (ci : Nat) (f : Int) (b : Bool) : Prop := ∃ (C : String) (T : u_T) (N : Nat), jCl[ci]? = some (C, T, N) ∧ (T f.toNat).2.2.2 = b ∧ (b = true → (T f.toNat).1 = C)
theorem G_putf {y : jY} {fs sh : jS} {m : jM} {pc : Nat} {ls st : List jV} {Q : Int → jM → Prop} {idx ci tag n : Nat} {f p x : Int} (hd : decode (jyc y) pc = .ok (.putfield idx, 3)) (hl : jFL (jyn y).cls idx ci f tag) (hf : jFfin ci f false) (ha : jat sh p (ci + 10) n) (hn : f < n) (hfit : jfit (jty ci f.toNat) x) (k : G y fs sh (jup m p f x) (pc + 3) ls st Q) : G y fs sh m pc ls ((tag, x) :: (2, p) :: st) Q := by
  intro w pr l e R s mm args below meth c H locs cells slots c0 s0 Z la C hH hS hL h1 h2 hc hs hfc hfs hret
  obtain ⟨C0, T, N, g1, g0, g2, g3, g4⟩ := hl
  obtain ⟨C0', T', N', f1, f2, -⟩ := hf
  rw [g1] at f1
  cases f1
  subst g4
  obtain ⟨q1, q2, q3⟩ := jcl_ok _ _ _ _ g1
  have hK : va_K w.2.2.2.1 jCl (jtys w) s := C.2.2.2.2.2.1
  have hts := C.2.2.2.2.1
  have hfn := jfit_ok (w := w) hfit
  show W pr l e R s mm args below meth c H locs cells slots Z (F0 mm pc la (jcv w (_, x) :: jcv w (2, p) :: st.map (jcv w)))
  rw [jcv_p ha.1]
  have hap := va_apart (own := (jyn y).cls) hts q1 (jty ci) q2 q3 hK g1
  obtain ⟨r, r1, cell, z1, z2, z3, z4⟩ := hH.2.1 p.toNat _ (jws_p ha)
  have hr : r = (C0, T, N) := Option.some.inj (r1.symm.trans g1)
  subst hr
  obtain ⟨hSl, hfcl, kC, hkC, hkind⟩ := hK.1 ci _ g1
  obtain ⟨cf, kf, fi, fd, hi, hsl⟩ := hSl f.toNat g2
  have hlay := hts _ (q1 _ (u_in_lay g2))
  unfold u_lay at hlay
  rw [if_neg (by rw [f2]; decide)] at hlay
  have hst := (u_facts hfcl hkC (u_lays hts q1 g2) hi).1
  have h6 := u_store hfcl hkC hkind hlay hi (q2 _ g2) hfn.1 hfn.2
  refine W.putK C.1 C.2.1 (f := fd) ⟨C.2.2.2.1, hts _ g3, ⟨_, _, _, hi⟩, hst⟩ (by rw [z2]; exact h6) z1 z3 (by rw [hsl]; exact k2_hasslot (z4 _ g2)) rfl rfl hd fun H' e1 e2 e3 => ?_
  rw [hsl] at e1 ⊢
  have hmem : va_at w.2.2.2.1 jCl (w.1 + p.toNat, jE w (ci + 10, n) (jup m p f x p)) H' := by
    refine ⟨_, g1, t_OB.to (V := updV (vp_V ((List.range n).map (fun (i : Nat) => jcv w (jtag (jty ci i), m p i)))) f.toNat (jcv w (jtag (jty ci f.toNat), x))) ⟨_, e1, z2, z3, t_set z4 hap g2 _⟩ (fun j _ => ?_)⟩
    rw [vp_updV_set (by rw [List.length_map, List.length_range]; omega)]
    rw [jset_list g0 hn]
    rfl
  exact k w pr l e R s mm args below meth c H' _ cells slots c0 s0 Z la C (jH_put hH ha e2 e3 hmem (fun q hq => jup_ne hq) (jup_ok hH ha (by rw [jkt_obj]; exact jok_h h2))) (hS.put e2 e3 (Nat.le_add_right _ _)) hL h1 (jok_t (jok_t h2)) hc hs hfc hfs hret
theorem G_putF {y : jY} {fs sh : jS} {m : jM} {pc : Nat} {ls st : List jV} {Q : Int → jM → Prop} {idx ci tag n : Nat} {f p x : Int} (hd : decode (jyc y) pc = .ok (.putfield idx, 3)) (hl : jFL (jyn y).cls idx ci f tag) (hf : jFfin ci f true) (hinit : (jyn y).name = "<init>") (hcls : jCl[ci]?.map (fun q => q.1) = some (jyn y).cls) (ha : jat sh p (ci + 10) n) (hn : f < n) (hfit : jfit (jty ci f.toNat) x) (k : G y fs sh (jup m p f x) (pc + 3) ls st Q) : G y fs sh m pc ls ((tag, x) :: (2, p) :: st) Q := by
  intro w pr l e R s mm args below meth c H locs cells slots c0 s0 Z la C hH hS hL h1 h2 hc hs hfc hfs hret
  obtain ⟨C0, T, N, g1, g0, g2, g3, g4⟩ := hl
  obtain ⟨C0', T', N', f1, f2, f3⟩ := hf
  rw [g1] at f1
  cases f1
  subst g4
  obtain ⟨q1, q2, q3⟩ := jcl_ok _ _ _ _ g1
  have hown : C0 = (jyn y).cls := by rw [g1] at hcls; exact Option.some.inj hcls
  have hK : va_K w.2.2.2.1 jCl (jtys w) s := C.2.2.2.2.2.1
  have hts := C.2.2.2.2.1
  have hfn := jfit_ok (w := w) hfit
  show W pr l e R s mm args below meth c H locs cells slots Z (F0 mm pc la (jcv w (_, x) :: jcv w (2, p) :: st.map (jcv w)))
  rw [jcv_p ha.1]
  have hname : meth.name = "<init>" := C.2.2.2.2.2.2.2.2.2.trans hinit
  have hap := va_apart (own := (jyn y).cls) hts q1 (jty ci) q2 q3 hK g1
  obtain ⟨r, r1, cell, z1, z2, z3, z4⟩ := hH.2.1 p.toNat _ (jws_p ha)
  have hr : r = (C0, T, N) := Option.some.inj (r1.symm.trans g1)
  subst hr
  obtain ⟨hSl, hfcl, kC, hkC, hkind⟩ := hK.1 ci _ g1
  obtain ⟨cf, kf, fi, fd, hi, hsl⟩ := hSl f.toNat g2
  have hlay := hts _ (q1 _ (u_in_lay g2))
  unfold u_lay at hlay
  rw [if_pos f2] at hlay
  have hst := (u_facts hfcl hkC (u_lays hts q1 g2) hi).1
  have hcf : mm.cls = cf := by
    obtain ⟨_, _, c', _, _, _, -, -, hf', -, -, -, hown2, -⟩ := Cond.laysFinal_spec hlay
    have e1 : c' = cf := by have := hi.symm.trans hf'; simp at this; exact this.1.symm
    rw [f3 rfl, hown] at hown2
    rw [← e1]; exact Option.some.inj (C.2.2.2.1.symm.trans hown2)
  have h6 := u_fits hfcl hkC hkind (Or.inr hlay) hi (q2 _ g2) hfn.1 hfn.2
  refine W.putFinK C.1 C.2.1 C.2.2.2.1 (hts _ g3) hi hst hcf hname (by rw [z2]; exact h6) z1 z3 (by rw [hsl]; exact k2_hasslot (z4 _ g2)) rfl rfl hd fun H' e1 e2 e3 => ?_
  rw [hsl] at e1 ⊢
  have hmem : va_at w.2.2.2.1 jCl (w.1 + p.toNat, jE w (ci + 10, n) (jup m p f x p)) H' := by
    refine ⟨_, g1, t_OB.to (V := updV (vp_V ((List.range n).map (fun (i : Nat) => jcv w (jtag (jty ci i), m p i)))) f.toNat (jcv w (jtag (jty ci f.toNat), x))) ⟨_, e1, z2, z3, t_set z4 hap g2 _⟩ (fun j _ => ?_)⟩
    rw [vp_updV_set (by rw [List.length_map, List.length_range]; omega)]
    rw [jset_list g0 hn]
    rfl
  exact k w pr l e R s mm args below meth c H' _ cells slots c0 s0 Z la C (jH_put hH ha e2 e3 hmem (fun q hq => jup_ne hq) (jup_ok hH ha (by rw [jkt_obj]; exact jok_h h2))) (hS.put e2 e3 (Nat.le_add_right _ _)) hL h1 (jok_t (jok_t h2)) hc hs hfc hfs hret
theorem j_clamp {i : Int} (h : jokv (0, i)) (h0 : 0 ≤ i) : (Int32.ofInt i).toNatClampNeg = i.toNat := by
  show (Int32.ofInt i).toInt.toNat = i.toNat
  rw [j_i h]
theorem j_in {i : Int} {n : Nat} (h : jokv (0, i)) (h0 : 0 ≤ i) (hn : i < n) : vp_in (Int32.ofInt i) n := by
  rw [vp_in_iff, j_i h]
  exact ⟨h0, hn⟩
theorem G_iald {y : jY} {fs sh : jS} {m : jM} {pc : Nat} {ls st : List jV} {Q : Int → jM → Prop} {n : Nat} {i p : Int} (hd : decode (jyc y) pc = .ok (.iaload, 1)) (ha : jat sh p 0 n) (h0 : 0 ≤ i) (hn : i < n) (k : G y fs sh m (pc + 1) ls ((0, m p i) :: st) Q) : G y fs sh m pc ls ((0, i) :: (2, p) :: st) Q := by
  intro w pr l e R s mm args below meth c H locs cells slots c0 s0 Z la C hH hS hL h1 h2 hc hs hfc hfs hret
  have hK : va_K w.2.2.2.1 jCl (jtys w) s := C.2.2.2.2.2.1
  show W pr l e R s mm args below meth c H locs cells slots Z (F0 mm pc la (.int (Int32.ofInt i) :: jcv w (2, p) :: st.map (jcv w)))
  rw [jcv_p ha.1]
  refine va_iald (f := fun j => Int32.ofInt (m p j)) C.1 C.2.1 hK hH.2.1 p.toNat 0 (jws_p ha) rfl (j_in (jok_h h2) h0 hn) hd ?_
  rw [j_clamp (jok_h h2) h0, j_cast h0]
  exact k w pr l e R s mm args below meth c H locs cells slots c0 s0 Z la C hH hS hL h1 (jok_c (jH_ok hH ha h0 hn) (jok_t (jok_t h2))) hc hs hfc hfs hret
theorem G_zald {y : jY} {fs sh : jS} {m : jM} {pc : Nat} {ls st : List jV} {Q : Int → jM → Prop} {n : Nat} {i p : Int} (hd : decode (jyc y) pc = .ok (.baload, 1)) (ha : jat sh p 2 n) (h0 : 0 ≤ i) (hn : i < n) (k : G y fs sh m (pc + 1) ls ((0, m p i) :: st) Q) : G y fs sh m pc ls ((0, i) :: (2, p) :: st) Q := by
  intro w pr l e R s mm args below meth c H locs cells slots c0 s0 Z la C hH hS hL h1 h2 hc hs hfc hfs hret
  have hK : va_K w.2.2.2.1 jCl (jtys w) s := C.2.2.2.2.2.1
  show W pr l e R s mm args below meth c H locs cells slots Z (F0 mm pc la (.int (Int32.ofInt i) :: jcv w (2, p) :: st.map (jcv w)))
  rw [jcv_p ha.1]
  refine va_zald (f := fun j => Int32.ofInt (m p j)) C.1 C.2.1 hK hH.2.1 p.toNat 2 (jws_p ha) rfl (j_in (jok_h h2) h0 hn) hd ?_
  rw [j_clamp (jok_h h2) h0, j_cast h0]
  exact k w pr l e R s mm args below meth c H locs cells slots c0 s0 Z la C hH hS hL h1 (jok_c (jH_ok hH ha h0 hn) (jok_t (jok_t h2))) hc hs hfc hfs hret
theorem G_lald {y : jY} {fs sh : jS} {m : jM} {pc : Nat} {ls st : List jV} {Q : Int → jM → Prop} {n : Nat} {i p : Int} (hd : decode (jyc y) pc = .ok (.laload, 1)) (ha : jat sh p 1 n) (h0 : 0 ≤ i) (hn : i < n) (k : G y fs sh m (pc + 1) ls ((1, m p i) :: st) Q) : G y fs sh m pc ls ((0, i) :: (2, p) :: st) Q := by
  intro w pr l e R s mm args below meth c H locs cells slots c0 s0 Z la C hH hS hL h1 h2 hc hs hfc hfs hret
  have hK : va_K w.2.2.2.1 jCl (jtys w) s := C.2.2.2.2.2.1
  show W pr l e R s mm args below meth c H locs cells slots Z (F0 mm pc la (.int (Int32.ofInt i) :: jcv w (2, p) :: st.map (jcv w)))
  rw [jcv_p ha.1]
  refine va_lald (f := fun j => Int64.ofInt (m p j)) C.1 C.2.1 hK hH.2.1 p.toNat 1 (jws_p ha) rfl (j_in (jok_h h2) h0 hn) hd ?_
  rw [j_clamp (jok_h h2) h0, j_cast h0]
  exact k w pr l e R s mm args below meth c H locs cells slots c0 s0 Z la C hH hS hL h1 (jok_c (jH_ok hH ha h0 hn) (jok_t (jok_t h2))) hc hs hfc hfs hret
theorem G_aald {y : jY} {fs sh : jS} {m : jM} {pc : Nat} {ls st : List jV} {Q : Int → jM → Prop} {n : Nat} {i p : Int} {kd : Nat} (hkd : kd = 3 ∨ kd = 4) (hd : decode (jyc y) pc = .ok (.aaload, 1)) (ha : jat sh p kd n) (h0 : 0 ≤ i) (hn : i < n) (k : G y fs sh m (pc + 1) ls ((2, m p i) :: st) Q) : G y fs sh m pc ls ((0, i) :: (2, p) :: st) Q := by
  intro w pr l e R s mm args below meth c H locs cells slots c0 s0 Z la C hH hS hL h1 h2 hc hs hfc hfs hret
  have hK : va_K w.2.2.2.1 jCl (jtys w) s := C.2.2.2.2.2.1
  show W pr l e R s mm args below meth c H locs cells slots Z (F0 mm pc la (.int (Int32.ofInt i) :: jcv w (2, p) :: st.map (jcv w)))
  rw [jcv_p ha.1]
  have he : va_rf (jro w (m p i)) = jcv w (2, m p i) := by
    by_cases hx : m p i = -1 <;> simp [jro, jcv, hx, va_rf]
  have hk : W pr l e R s mm args below meth c H locs cells slots Z (F0 mm (pc + 1) la (va_rf (jro w (m p i)) :: st.map (jcv w))) := by
    rw [he]
    exact k w pr l e R s mm args below meth c H locs cells slots c0 s0 Z la C hH hS hL h1 (jok_c (j_ok2 _) (jok_t (jok_t h2))) hc hs hfc hfs hret
  rcases hkd with rfl | rfl
  · refine va_aldq (f := fun j => jro w (m p j)) C.1 C.2.1 hK hH.2.1 p.toNat 3 (jws_p ha) rfl (j_in (jok_h h2) h0 hn) hd ?_
    rw [j_clamp (jok_h h2) h0, j_cast h0]
    exact hk
  · refine va_aldq (f := fun j => jro w (m p j)) C.1 C.2.1 hK hH.2.1 p.toNat 4 (jws_p ha) rfl (j_in (jok_h h2) h0 hn) hd ?_
    rw [j_clamp (jok_h h2) h0, j_cast h0]
    exact hk
theorem G_xald {y : jY} {fs sh : jS} {m : jM} {pc : Nat} {ls st : List jV} {Q : Int → jM → Prop} {n : Nat} {i p : Int} (hp : p = -2 ∨ p = -3) (hd : decode (jyc y) pc = .ok (.iaload, 1)) (h0 : 0 ≤ i) (hn : i < m p (-1)) (k : G y fs sh m (pc + 1) ls ((0, m p i) :: st) Q) : G y fs sh m pc ls ((0, i) :: (2, p) :: st) Q := by
  intro w pr l e R s mm args below meth c H locs cells slots c0 s0 Z la C hH hS hL h1 h2 hc hs hfc hfs hret
  have hK : va_K w.2.2.2.1 jCl (jtys w) s := C.2.2.2.2.2.1
  have hX : jX w s := C.2.2.2.2.2.2.1
  have hm : m p = w.2.2.2.2 p := hH.2.2.2 p (by omega)
  have hx : jXa w p s := by rcases hp with rfl | rfl; exact hX.2.1; exact hX.2.2.1
  show W pr l e R s mm args below meth c H locs cells slots Z (F0 mm pc la (.int (Int32.ofInt i) :: jcv w (2, p) :: st.map (jcv w)))
  rw [jcv_x (by omega)]
  rw [hm] at hn k
  refine va_sld C.1 C.2.1 hx.2.1 (Nat.lt_of_lt_of_le hx.1 hX.1) (A := jA w) (Nat.not_le.mpr hx.1) hS (j_in (jok_h h2) h0 (by have := hx.2.2.1.1; omega)) hd ?_
  rw [j_clamp (jok_h h2) h0, j_cast h0]
  exact k w pr l e R s mm args below meth c H locs cells slots c0 s0 Z la C hH hS hL h1 (jok_c (hx.2.2.2 i) (jok_t (jok_t h2))) hc hs hfc hfs hret
theorem G_xlen {y : jY} {fs sh : jS} {m : jM} {pc : Nat} {ls st : List jV} {Q : Int → jM → Prop} {n : Nat} {i p : Int} (hp : p = -2 ∨ p = -3) (hd : decode (jyc y) pc = .ok (.arraylength, 1)) (k : G y fs sh m (pc + 1) ls ((0, m p (-1)) :: st) Q) : G y fs sh m pc ls ((2, p) :: st) Q := by
  intro w pr l e R s mm args below meth c H locs cells slots c0 s0 Z la C hH hS hL h1 h2 hc hs hfc hfs hret
  have hK : va_K w.2.2.2.1 jCl (jtys w) s := C.2.2.2.2.2.1
  have hX : jX w s := C.2.2.2.2.2.2.1
  have hm : m p = w.2.2.2.2 p := hH.2.2.2 p (by omega)
  have hx : jXa w p s := by rcases hp with rfl | rfl; exact hX.2.1; exact hX.2.2.1
  show W pr l e R s mm args below meth c H locs cells slots Z (F0 mm pc la (jcv w (2, p) :: st.map (jcv w)))
  rw [jcv_x (by omega)]
  rw [hm] at k
  refine va_slen C.1 C.2.1 hx.2.1 (Nat.lt_of_lt_of_le hx.1 hX.1) (A := jA w) (Nat.not_le.mpr hx.1) hS hd ?_
  have hn : nI (w.2.2.2.2 p (-1)).toNat = Int32.ofInt (w.2.2.2.2 p (-1)) := by
    have := hx.2.2.1
    rw [← Int32.toInt_inj, nI_toInt (by omega), j_i (hx.2.2.2 (-1)), j_cast this.1]
  first | rw [hn] | rw [show Int32.ofNat (w.2.2.2.2 p (-1)).toNat = Int32.ofInt (w.2.2.2.2 p (-1)) from hn]
  exact k w pr l e R s mm args below meth c H locs cells slots c0 s0 Z la C hH hS hL h1 (jok_c (hx.2.2.2 (-1)) (jok_t h2)) hc hs hfc hfs hret
theorem G_alen {y : jY} {fs sh : jS} {m : jM} {pc : Nat} {ls st : List jV} {Q : Int → jM → Prop} {n kd : Nat} {p : Int} (hkd : kd < 5) (hn : n < 2147483648) (hd : decode (jyc y) pc = .ok (.arraylength, 1)) (ha : jat sh p kd n) (k : G y fs sh m (pc + 1) ls ((0, (n : Int)) :: st) Q) : G y fs sh m pc ls ((2, p) :: st) Q := by
  intro w pr l e R s mm args below meth c H locs cells slots c0 s0 Z la C hH hS hL h1 h2 hc hs hfc hfs hret
  have hK : va_K w.2.2.2.1 jCl (jtys w) s := C.2.2.2.2.2.1
  show W pr l e R s mm args below meth c H locs cells slots Z (F0 mm pc la (jcv w (2, p) :: st.map (jcv w)))
  rw [jcv_p ha.1]
  have hv : Int32.ofNat n = Int32.ofInt (n : Int) := by
    have : nI n = Int32.ofInt (n : Int) := by rw [← Int32.toInt_inj, nI_toInt (by omega), j_i (j_ok0 (by omega) (by omega))]
    exact this
  have hk : W pr l e R s mm args below meth c H locs cells slots Z (F0 mm (pc + 1) la (.int (Int32.ofInt (n : Int)) :: st.map (jcv w))) := k w pr l e R s mm args below meth c H locs cells slots c0 s0 Z la C hH hS hL h1 (jok_c (j_ok0 (by omega) (by omega)) (jok_t h2)) hc hs hfc hfs hret
  match kd, hkd with
  | 0, _ => exact va_alen C.1 C.2.1 hK hH.2.1 p.toNat 0 (jws_p ha) rfl hv hd hk
  | 1, _ => exact va_alen C.1 C.2.1 hK hH.2.1 p.toNat 1 (jws_p ha) rfl hv hd hk
  | 2, _ => exact va_alen C.1 C.2.1 hK hH.2.1 p.toNat 2 (jws_p ha) rfl hv hd hk
  | 3, _ => exact va_alen C.1 C.2.1 hK hH.2.1 p.toNat 3 (jws_p ha) rfl hv hd hk
  | 4, _ => exact va_alen C.1 C.2.1 hK hH.2.1 p.toNat 4 (jws_p ha) rfl hv hd hk
theorem G_iast {y : jY} {fs sh : jS} {m : jM} {pc : Nat} {ls st : List jV} {Q : Int → jM → Prop} {n : Nat} {i p : Int} {x : Int} (hd : decode (jyc y) pc = .ok (.iastore, 1)) (ha : jat sh p 0 n) (h0 : 0 ≤ i) (hn : i < n) (k : G y fs sh (jup m p i x) (pc + 1) ls st Q) : G y fs sh m pc ls ((0, x) :: (0, i) :: (2, p) :: st) Q := by
  intro w pr l e R s mm args below meth c H locs cells slots c0 s0 Z la C hH hS hL h1 h2 hc hs hfc hfs hret
  have hK : va_K w.2.2.2.1 jCl (jtys w) s := C.2.2.2.2.2.1
  show W pr l e R s mm args below meth c H locs cells slots Z (F0 mm pc la (.int (Int32.ofInt x) :: .int (Int32.ofInt i) :: jcv w (2, p) :: st.map (jcv w)))
  rw [jcv_p ha.1]
  have hi := jok_h (jok_t h2)
  have hin := j_in hi h0 hn
  refine W.iast C.1 C.2.1 (hH.2.1 p.toNat _ (jws_p ha)) ((hK.2 0 _ rfl).1 n (fun j => .int (Int32.ofInt (m p j)))) (fun q => by cases q) (by show ¬ (_ < 0 ∨ (arrV _ _ _).slots.size ≤ _); rw [arrV_size]; exact hin) rfl rfl hd fun H' e1 e2 e3 => ?_
  have hmem : va_at w.2.2.2.1 jCl (w.1 + p.toNat, jE w (0, n) (jup m p i x p)) H' := by
    refine e1.trans (congrArg some ?_)
    show (arrV _ _ (fun j => .int (Int32.ofInt (m p j)))).setSlot _ _ = arrV _ _ (fun j => .int (Int32.ofInt (jup m p i x p j)))
    rw [arrV_store]
    congr 1
    funext j
    rw [j_clamp hi h0]
    by_cases hj : j = i.toNat
    · subst hj
      simp only [updV, if_true]
      rw [j_cast h0, jup_s]
    · simp only [updV, if_neg hj]
      rw [jup_j (by omega)]
  exact k w pr l e R s mm args below meth c H' _ cells slots c0 s0 Z la C (jH_put hH ha e2 e3 hmem (fun q hq => jup_ne hq) (jup_ok hH ha (jok_h h2))) (hS.put e2 e3 (Nat.le_add_right _ _)) hL h1 (jok_t (jok_t (jok_t h2))) hc hs hfc hfs hret
theorem G_last {y : jY} {fs sh : jS} {m : jM} {pc : Nat} {ls st : List jV} {Q : Int → jM → Prop} {n : Nat} {i p : Int} {x : Int} (hd : decode (jyc y) pc = .ok (.lastore, 1)) (ha : jat sh p 1 n) (h0 : 0 ≤ i) (hn : i < n) (k : G y fs sh (jup m p i x) (pc + 1) ls st Q) : G y fs sh m pc ls ((1, x) :: (0, i) :: (2, p) :: st) Q := by
  intro w pr l e R s mm args below meth c H locs cells slots c0 s0 Z la C hH hS hL h1 h2 hc hs hfc hfs hret
  have hK : va_K w.2.2.2.1 jCl (jtys w) s := C.2.2.2.2.2.1
  show W pr l e R s mm args below meth c H locs cells slots Z (F0 mm pc la (.long (Int64.ofInt x) :: .int (Int32.ofInt i) :: jcv w (2, p) :: st.map (jcv w)))
  rw [jcv_p ha.1]
  have hi := jok_h (jok_t h2)
  have hin := j_in hi h0 hn
  refine W.last C.1 C.2.1 (hH.2.1 p.toNat _ (jws_p ha)) ((hK.2 1 _ rfl).1 n (fun j => .long (Int64.ofInt (m p j)))) (fun q => by cases q) (by show ¬ (_ < 0 ∨ (arrV _ _ _).slots.size ≤ _); rw [arrV_size]; exact hin) rfl rfl hd fun H' e1 e2 e3 => ?_
  have hmem : va_at w.2.2.2.1 jCl (w.1 + p.toNat, jE w (1, n) (jup m p i x p)) H' := by
    refine e1.trans (congrArg some ?_)
    show (arrV _ _ (fun j => .long (Int64.ofInt (m p j)))).setSlot _ _ = arrV _ _ (fun j => .long (Int64.ofInt (jup m p i x p j)))
    rw [arrV_store]
    congr 1
    funext j
    rw [j_clamp hi h0]
    by_cases hj : j = i.toNat
    · subst hj
      simp only [updV, if_true]
      rw [j_cast h0, jup_s]
    · simp only [updV, if_neg hj]
      rw [jup_j (by omega)]
  exact k w pr l e R s mm args below meth c H' _ cells slots c0 s0 Z la C (jH_put hH ha e2 e3 hmem (fun q hq => jup_ne hq) (jup_ok hH ha (jok_h h2))) (hS.put e2 e3 (Nat.le_add_right _ _)) hL h1 (jok_t (jok_t (jok_t h2))) hc hs hfc hfs hret
theorem G_zast {y : jY} {fs sh : jS} {m : jM} {pc : Nat} {ls st : List jV} {Q : Int → jM → Prop} {n : Nat} {i p : Int} {x : Int} (hd : decode (jyc y) pc = .ok (.bastore, 1)) (ha : jat sh p 2 n) (h0 : 0 ≤ i) (hn : i < n) (hx : x = 0 ∨ x = 1) (k : G y fs sh (jup m p i x) (pc + 1) ls st Q) : G y fs sh m pc ls ((0, x) :: (0, i) :: (2, p) :: st) Q := by
  intro w pr l e R s mm args below meth c H locs cells slots c0 s0 Z la C hH hS hL h1 h2 hc hs hfc hfs hret
  have hK : va_K w.2.2.2.1 jCl (jtys w) s := C.2.2.2.2.2.1
  show W pr l e R s mm args below meth c H locs cells slots Z (F0 mm pc la (.int (Int32.ofInt x) :: .int (Int32.ofInt i) :: jcv w (2, p) :: st.map (jcv w)))
  rw [jcv_p ha.1]
  have hi := jok_h (jok_t h2)
  have hin := j_in hi h0 hn
  refine W.zast C.1 C.2.1 (hH.2.1 p.toNat _ (jws_p ha)) ((hK.2 2 _ rfl).1 n (fun j => .int (Int32.ofInt (m p j)))) (fun q => by cases q) (by show ¬ (_ < 0 ∨ (arrV _ _ _).slots.size ≤ _); rw [arrV_size]; exact hin) rfl rfl hd fun H' e1 e2 e3 => ?_
  have hmem : va_at w.2.2.2.1 jCl (w.1 + p.toNat, jE w (2, n) (jup m p i x p)) H' := by
    refine e1.trans (congrArg some ?_)
    rw [show narrow .boolean (.int (Int32.ofInt x)) = .int (Int32.ofInt x) from (jfit_ok (w := w) (ty := .boolean) hx).1]
    show (arrV _ _ (fun j => .int (Int32.ofInt (m p j)))).setSlot _ _ = arrV _ _ (fun j => .int (Int32.ofInt (jup m p i x p j)))
    rw [arrV_store]
    congr 1
    funext j
    rw [j_clamp hi h0]
    by_cases hj : j = i.toNat
    · subst hj
      simp only [updV, if_true]
      rw [j_cast h0, jup_s]
    · simp only [updV, if_neg hj]
      rw [jup_j (by omega)]
  exact k w pr l e R s mm args below meth c H' _ cells slots c0 s0 Z la C (jH_put hH ha e2 e3 hmem (fun q hq => jup_ne hq) (jup_ok hH ha (jok_h h2))) (hS.put e2 e3 (Nat.le_add_right _ _)) hL h1 (jok_t (jok_t (jok_t h2))) hc hs hfc hfs hret
