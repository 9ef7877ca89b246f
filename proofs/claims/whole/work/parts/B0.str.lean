/-! the JDK's text: charAt of the constant String -/
def iJ0_charAt : jY := (yJ0_charAt_5068e, cJ0_charAt_5068e, 2, some .char, 3, [])
def iJ0_isLatin1 : jY := (yJ0_isLatin1_aae02, cJ0_isLatin1_aae02, 1, some .boolean, 0, [])
def iJ1_charAt : jY := (yJ1_charAt_3b067, cJ1_charAt_3b067, 2, some .char, 2, [])
def iJ0_checkIndex : jY := (yJ0_checkIndex_df160, cJ0_checkIndex_df160, 2, none, 1, [])
def iJ3_checkIndex : jY := (yJ3_checkIndex_8e157, cJ3_checkIndex_8e157, 3, some .int, 0, [])
theorem jsL : Cond.methodLink RX6 30 (jyn iJ0_charAt) ∈ jTbl ∧ Cond.methodLink RJ0 492 (jyn iJ0_isLatin1) ∈ jTbl ∧ Cond.methodLink RJ0 495 (jyn iJ1_charAt) ∈ jTbl ∧ Cond.methodLink RJ1 9 (jyn iJ0_checkIndex) ∈ jTbl ∧ Cond.methodLink RJ0 1059 (jyn iJ3_checkIndex) ∈ jTbl := ⟨jinT1 (List.mem_of_getElem? (i := 42) rfl) rfl, jinT1 (List.mem_of_getElem? (i := 46) rfl) rfl, jinT1 (List.mem_of_getElem? (i := 52) rfl) rfl, jinT1 (List.mem_of_getElem? (i := 55) rfl) rfl, jinT1 (List.mem_of_getElem? (i := 60) rfl) rfl⟩
theorem jsI : Cond.instanceMethod (jyn iJ0_charAt) ∈ jTbl ∧ Cond.instanceMethod (jyn iJ0_isLatin1) ∈ jTbl ∧ Cond.static (jyn iJ1_charAt) ∈ jTbl ∧ Cond.static (jyn iJ0_checkIndex) ∈ jTbl ∧ Cond.static (jyn iJ3_checkIndex) ∈ jTbl := ⟨jinT1 (List.mem_of_getElem? (i := 43) rfl) rfl, jinT1 (List.mem_of_getElem? (i := 47) rfl) rfl, jinT1 (List.mem_of_getElem? (i := 53) rfl) rfl, jinT1 (List.mem_of_getElem? (i := 56) rfl) rfl, jinT1 (List.mem_of_getElem? (i := 61) rfl) rfl⟩
theorem jsS : Cond.selects (jyn iJ0_charAt).cls (jyn iJ0_charAt) (jyn iJ0_charAt) ∈ jTbl ∧ Cond.selects (jyn iJ0_isLatin1).cls (jyn iJ0_isLatin1) (jyn iJ0_isLatin1) ∈ jTbl := ⟨jinT1 (List.mem_of_getElem? (i := 44) rfl) rfl, jinT1 (List.mem_of_getElem? (i := 48) rfl) rfl⟩
theorem jsC0 : Cond.code (jyn iJ0_charAt) (jyc iJ0_charAt) (jyl iJ0_charAt) (jyr iJ0_charAt) ∈ jTbl := jinT1 (List.mem_of_getElem? (i := 45) rfl) rfl
theorem jsC1 : Cond.code (jyn iJ0_isLatin1) (jyc iJ0_isLatin1) (jyl iJ0_isLatin1) (jyr iJ0_isLatin1) ∈ jTbl := jinT1 (List.mem_of_getElem? (i := 49) rfl) rfl
theorem jsC2 : Cond.code (jyn iJ1_charAt) (jyc iJ1_charAt) (jyl iJ1_charAt) (jyr iJ1_charAt) ∈ jTbl := jinT1 (List.mem_of_getElem? (i := 54) rfl) rfl
theorem jsC3 : Cond.code (jyn iJ0_checkIndex) (jyc iJ0_checkIndex) (jyl iJ0_checkIndex) (jyr iJ0_checkIndex) ∈ jTbl := jinT1 (List.mem_of_getElem? (i := 57) rfl) rfl
theorem jsC4 : Cond.code (jyn iJ3_checkIndex) (jyc iJ3_checkIndex) (jyl iJ3_checkIndex) (jyr iJ3_checkIndex) ∈ jTbl := jinT1 (List.mem_of_getElem? (i := 62) rfl) rfl
theorem jsN : Cond.initialized RJ0 ∈ jTbl ∧ Cond.initialized RJ1 ∈ jTbl ∧ Cond.initialized RJ3 ∈ jTbl := ⟨jinT1 (List.mem_of_getElem? (i := 4) rfl) rfl, jinT1 (List.mem_of_getElem? (i := 5) rfl) rfl, jinT1 (List.mem_of_getElem? (i := 6) rfl) rfl⟩
theorem cvJ_charAt : jCV RX6 30 iJ0_charAt 1 := ⟨jsL.1, jsI.1, jsS.1, jsC0, jsN.1, ⟨by decide +kernel, by decide +kernel, by decide +kernel⟩, by decide⟩
theorem cvJ_isLatin1 : jCV RJ0 492 iJ0_isLatin1 0 := ⟨jsL.2.1, jsI.2.1, jsS.2, jsC1, jsN.1, ⟨by decide +kernel, by decide +kernel, by decide +kernel⟩, by decide⟩
theorem csJ_charAt : jCS RJ0 495 iJ1_charAt 2 := ⟨jsL.2.2.1, jsI.2.2.1, jsC2, jsN.2.1, ⟨by decide +kernel, by decide +kernel, by decide +kernel⟩, by decide⟩
theorem csJ_check : jCS RJ1 9 iJ0_checkIndex 2 := ⟨jsL.2.2.2.1, jsI.2.2.2.1, jsC3, jsN.1, ⟨by decide +kernel, by decide +kernel, by decide +kernel⟩, by decide⟩
theorem csJ_check3 : jCS RJ0 1059 iJ3_checkIndex 3 := ⟨jsL.2.2.2.2, jsI.2.2.2.2, jsC4, jsN.2.2, ⟨by decide +kernel, by decide +kernel, by decide +kernel⟩, by decide⟩
theorem jsF1 : Cond.fieldLink RJ0 15 "java/lang/String" "coder" "B" ∈ jTbl := jinT10 (List.mem_of_getElem? (i := 99) rfl) rfl
theorem jsF2 : Cond.fieldLink RJ0 9 "java/lang/String" "value" "[B" ∈ jTbl := jinT10 (List.mem_of_getElem? (i := 100) rfl) rfl
theorem jsF3 : Cond.fieldLink RJ0 38 "java/lang/String" "COMPACT_STRINGS" "Z" ∈ jTbl := jinT1 (List.mem_of_getElem? (i := 50) rfl) rfl
theorem jsF4 : Cond.fieldLink RJ0 1053 "jdk/internal/util/Preconditions" "SIOOBE_FORMATTER" "Ljava/util/function/BiFunction;" ∈ jTbl := jinT1 (List.mem_of_getElem? (i := 58) rfl) rfl
section
variable {y : jY} {fs sh : jS} {m : jM} {pc : Nat} {ls st : List jV} {Q : Int → jM → Prop}
theorem G_callVs {y2 : jY} {idx n : Nat} {stk : List jV} (av st : List jV) (hd : decode (jyc y) pc = .ok (.invokevirtual idx, 3)) (hl : jCV (jyn y).cls idx y2 n) (hn : av.length = n) (hh : jyh y2 < jyh y) (hw : jyw y2 = []) (hcl : (jyn y2).cls = "java/lang/String") (hst : stk = av.reverse ++ (2, -4) :: st) (hcat : jcats st ≤ 8) (hf1 : sh.length ≤ fs.length) (hf2 : jns sh ≤ jns fs)
    (k : M y2 ((2, -4) :: av) sh m (fun r m' => (∀ q : Int, q < 0 → m' q = m q) → G y fs sh m' (pc + 3) ls (jpush y2 r st) Q)) : G y fs sh m pc ls stk Q := by
  intro w pr l e R s mm args below meth c H locs cells slots c0 s0 Z la C hH hS hL h1 h2 hc hs hfc hfs hret
  subst hst
  obtain ⟨g1, g2, g3, g4, g5, g6, g7⟩ := hl
  have hts := C.2.2.2.2.1
  have hR : (jrm y2).frames + 1 ≤ R.frames ∧ 8 + (jyl y2 + 11) + (jrm y2).locals ≤ R.locals := by
    have r1 : jyh y + 1 ≤ R.frames := C.2.2.2.2.2.2.2.1
    have r2 : 45 * jyh y + 40 ≤ R.locals := C.2.2.2.2.2.2.2.2.1
    simp only [jrm]
    omega
  have hX : jX w s := C.2.2.2.2.2.2.1
  have hrecv := vk_recv (i := 0) hX.2.2.2.1.2.1 (by decide) hS
  rw [← hcl] at hrecv
  have hmap : (av.reverse ++ (2, -4) :: st).map (jcv w) = (av.map (jcv w)).reverse ++ .ref (w.2.1 (-4)) :: st.map (jcv w) := by
    rw [List.map_append, List.map_reverse, List.map_cons, jcv_x (by decide)]
  have hok : jok ((2, -4) :: av) := jok_c (j_ok2 _) (fun v hv => h2 v (List.mem_append_left _ (List.mem_reverse.mpr hv)))
  have hokst : jok st := fun v hv => h2 v (List.mem_append_right _ (List.mem_cons_of_mem _ hv))
  have hPc := jPc_at (av := (2, -4) :: av) C hH hS hok
  rw [List.map_cons, jcv_x (by decide)] at hPc
  have hkk : M y2 ((2, -4) :: av) sh m (fun r m' => (∀ q : Int, q < 0 → m' q = m q) → G y fs (sh ++ jyw y2) m' (pc + 3) ls (jpush y2 r st) Q) := by rw [hw, List.append_nil]; exact k
  rw [hmap]
  refine G_back (y2 := y2) (a := (Value.ref (w.2.1 (-4)) :: av.map (jcv w)).toArray) C hH hS hL h1 hokst hc hs hfc hfs hret ?_
  refine va_runV (As := av.map (jcv w)) (rest := st.map (jcv w)) (n := n) (ret := jyr y2) (bytes := jyc y2) (maxL := jyl y2) (C := (jyn y2).cls) (rm := jrm y2) (ws := jwsM y2) ⟨C.1, C.2.1, C.2.2.1, C.2.2.2.1, hts⟩ (hkk w l) ⟨callB_of n hts (jGI g4) rfl rfl rfl (hts _ g5) (hts _ g1) g6 hR, hts _ g2, hts _ g3⟩ ⟨jPc_blind _ _ _ _, hrecv, hPc⟩ rfl (by rw [List.length_map]; exact hn) hL.2.1 rfl (lv_room (Nat.le_trans (jcats_ok st) hcat)) hd ?_
  rw [hw]
  constructor
  · show cells + 0 ≤ R.cells; omega
  · show slots + 0 ≤ R.slots; omega
theorem G_ldcS (hd : decode (jyc y) pc = .ok (.ldc 28, 2)) (hy : (jyn y).cls = RX6) (k : G y fs sh m (pc + 2) ls ((2, -4) :: st) Q) : G y fs sh m pc ls st Q := by
  intro w p l e R s mm args below meth c H locs cells slots c0 s0 Z la C hH hS hL h1 h2 hc hs hfc hfs hret
  have hX : jX w s := C.2.2.2.2.2.2.1
  have hown := C.2.2.2.1
  rw [hy] at hown
  refine va_ldcS C.1 C.2.1 hown hX.2.2.2.1.2.2.2.2 hd ?_
  have K := k w p l e R s mm args below meth c H locs cells slots c0 s0 Z la C hH hS hL h1 (jok_c (j_ok2 _) h2) hc hs hfc hfs hret
  rw [List.map_cons, jcv_x (by decide)] at K
  exact K
theorem G_coder {idx : Nat} (hd : decode (jyc y) pc = .ok (.getfield idx, 3)) (hl : Cond.fieldLink (jyn y).cls idx "java/lang/String" "coder" "B" ∈ jTbl) (k : G y fs sh m (pc + 3) ls ((0, 0) :: st) Q) : G y fs sh m pc ls ((2, -4) :: st) Q := by
  intro w p l e R s mm args below meth c H locs cells slots c0 s0 Z la C hH hS hL h1 h2 hc hs hfc hfs hret
  have hX : jX w s := C.2.2.2.2.2.2.1
  rw [List.map_cons, jcv_x (by decide)]
  exact vk_getf C.1 C.2.1 (hX.2.2.2.1.2.1.1 0 (by decide)).2.1 hS C.2.2.2.1 (C.2.2.2.2.1 _ hl) (fun _ h => h) hd (k w p l e R s mm args below meth c H locs cells slots c0 s0 Z la C hH hS hL h1 (jok_c (j_ok0 (by decide) (by decide)) (jok_t h2)) hc hs hfc hfs hret)
theorem G_value {idx : Nat} (hd : decode (jyc y) pc = .ok (.getfield idx, 3)) (hl : Cond.fieldLink (jyn y).cls idx "java/lang/String" "value" "[B" ∈ jTbl) (k : G y fs sh m (pc + 3) ls ((2, -5) :: st) Q) : G y fs sh m pc ls ((2, -4) :: st) Q := by
  intro w p l e R s mm args below meth c H locs cells slots c0 s0 Z la C hH hS hL h1 h2 hc hs hfc hfs hret
  have hX : jX w s := C.2.2.2.2.2.2.1
  rw [List.map_cons, jcv_x (by decide)]
  refine vk_getf C.1 C.2.1 (hX.2.2.2.1.2.1.1 0 (by decide)).2.2.1 hS C.2.2.2.1 (C.2.2.2.2.1 _ hl) (fun _ h => h) hd ?_
  have K := k w p l e R s mm args below meth c H locs cells slots c0 s0 Z la C hH hS hL h1 (jok_c (j_ok2 _) (jok_t h2)) hc hs hfc hfs hret
  rw [List.map_cons, jcv_x (by decide)] at K
  exact K
theorem G_getsC {idx : Nat} (hd : decode (jyc y) pc = .ok (.getstatic idx, 3)) (hl : Cond.fieldLink (jyn y).cls idx "java/lang/String" "COMPACT_STRINGS" "Z" ∈ jTbl) (k : G y fs sh m (pc + 3) ls ((0, 1) :: st) Q) : G y fs sh m pc ls st Q := by
  intro w p l e R s mm args below meth c H locs cells slots c0 s0 Z la C hH hS hL h1 h2 hc hs hfc hfs hret
  have hX : jX w s := C.2.2.2.2.2.2.1
  exact va_gets C.1 C.2.1 hX.2.2.2.1.2.2.1 hS C.2.2.2.1 (C.2.2.2.2.1 _ hl) (fun _ h => h) hd (k w p l e R s mm args below meth c H locs cells slots c0 s0 Z la C hH hS hL h1 (jok_c (j_ok0 (by decide) (by decide)) h2) hc hs hfc hfs hret)
theorem G_getsB {idx : Nat} (hd : decode (jyc y) pc = .ok (.getstatic idx, 3)) (hl : Cond.fieldLink (jyn y).cls idx "jdk/internal/util/Preconditions" "SIOOBE_FORMATTER" "Ljava/util/function/BiFunction;" ∈ jTbl) (k : G y fs sh m (pc + 3) ls ((2, m (-6) 0) :: st) Q) : G y fs sh m pc ls st Q := by
  intro w p l e R s mm args below meth c H locs cells slots c0 s0 Z la C hH hS hL h1 h2 hc hs hfc hfs hret
  have hX : jX w s := C.2.2.2.2.2.2.1
  refine va_gets C.1 C.2.1 hX.2.2.2.1.2.2.2.1 hS C.2.2.2.1 (C.2.2.2.2.1 _ hl) (fun _ h => h) hd ?_
  have K := k w p l e R s mm args below meth c H locs cells slots c0 s0 Z la C hH hS hL h1 (jok_c (j_ok2 _) h2) hc hs hfc hfs hret
  rw [hH.2.2.2 (-6) (by decide)] at K
  exact K
theorem G_slen (hd : decode (jyc y) pc = .ok (.arraylength, 1)) (k : G y fs sh m (pc + 1) ls ((0, 176) :: st) Q) : G y fs sh m pc ls ((2, -5) :: st) Q := by
  intro w p l e R s mm args below meth c H locs cells slots c0 s0 Z la C hH hS hL h1 h2 hc hs hfc hfs hret
  have hX : jX w s := C.2.2.2.2.2.2.1
  rw [List.map_cons, jcv_x (by decide)]
  exact va_tlen C.1 C.2.1 (hX.2.2.2.1.2.1.1 0 (by decide)).2.2.2 hS (v := Int32.ofInt 176) (by decide) hd (k w p l e R s mm args below meth c H locs cells slots c0 s0 Z la C hH hS hL h1 (jok_c (j_ok0 (by decide) (by decide)) (jok_t h2)) hc hs hfc hfs hret)
/-- a byte of the text -/
def wB (i : Int) : Int := (wBy.getD i.toNat 0).toInt
theorem wB_in : ∀ i : Fin 176, 0 ≤ wB ((i : Nat) : Int) ∧ wB ((i : Nat) : Int) ≤ 127 := by decide +kernel
theorem G_sbald {i : Int} (hd : decode (jyc y) pc = .ok (.baload, 1)) (i0 : 0 ≤ i) (i1 : i < 176) (k : G y fs sh m (pc + 1) ls ((0, wB i) :: st) Q) : G y fs sh m pc ls ((0, i) :: (2, -5) :: st) Q := by
  intro w p l e R s mm args below meth c H locs cells slots c0 s0 Z la C hH hS hL h1 h2 hc hs hfc hfs hret
  have hX : jX w s := C.2.2.2.2.2.2.1
  have hi := jok_h h2
  have b := wB_in ⟨i.toNat, by omega⟩
  simp only [Int.toNat_of_nonneg i0] at b
  rw [List.map_cons, List.map_cons, jcv_x (show (-5 : Int) < -1 by decide)]
  refine va_tb (N := 176) C.1 C.2.1 (hX.2.2.2.1.2.1.1 0 (by decide)).2.2.2 hS (i := Int32.ofInt i) (j_in hi i0 (by omega)) (v := jcv w (0, wB i)) ?_ hd (k w p l e R s mm args below meth c H locs cells slots c0 s0 Z la C hH hS hL h1 (jok_c (j_ok0 (by omega) (by omega)) (jok_t (jok_t h2))) hc hs hfc hfs hret)
  rw [j_clamp hi i0]
  show Value.int (wBy.getD i.toNat 0) = .int (Int32.ofInt (wB i))
  unfold wB
  rw [j_back]
theorem G_pop {t : Nat} {x : Int} (hd : decode (jyc y) pc = .ok (.pop, 1)) (ht : t ≠ 1) (k : G y fs sh m (pc + 1) ls st Q) : G y fs sh m pc ls ((t, x) :: st) Q := by
  intro w p l e R s mm args below meth c H locs cells slots c0 s0 Z la C hH hS hL h1 h2 hc hs hfc hfs hret
  exact lv_pop C.1 C.2.1 hd ((lv_cat (jcv w (t, x))).resolve_right (jcat ht)) (k w p l e R s mm args below meth c H locs cells slots c0 s0 Z la C hH hS hL h1 (jok_t h2) hc hs hfc hfs hret)
theorem j255 : Int32.ofInt 255 = 255 := by decide
theorem G_i2c {b : Int} (hd : decode (jyc y) pc = .ok (.i2c, 1)) (k : G y fs sh m (pc + 1) ls ((0, jand b 255) :: st) Q) : G y fs sh m pc ls ((0, jand b 255) :: st) Q := by
  intro w p l e R s mm args below meth c H locs cells slots c0 s0 Z la C hH hS hL h1 h2 hc hs hfc hfs hret
  refine lv_i2c C.1 C.2.1 hd (v := Int32.ofInt (jand b 255)) ?_ (k w p l e R s mm args below meth c H locs cells slots c0 s0 Z la C hH hS hL h1 h2 hc hs hfc hfs hret)
  unfold jand
  rw [j_back, j255]
  exact sc_c2 _
theorem G_iretc {r : Int} (hf : fs = sh) (hd : decode (jyc y) pc = .ok (.ireturn, 1)) (hr : jyr y = some .char) (k : Q r m) : G y fs sh m pc ls [(0, r)] Q := by
  intro w p l e R s mm args below meth c H locs cells slots c0 s0 Z la C hH hS hL h1 h2 hc hs hfc hfs hret
  subst hf
  have e : jrst w y r = [jcv w (0, r)] := by simp [jrst, hr, jtag]
  have K := hret r m H locs cells slots pc la hH hS hc hs k ⟨by simp only [jrt, hr, jtag]; exact jok_h h2, fun h => by rw [hr] at h; cases h⟩ (by simp only [jri, hr]; exact hd)
  rw [e] at K
  exact K
end
set_option maxHeartbeats 4000000 in
theorem M_introC {y : jY} {av : List jV} {sh : jS} {m : jM} {Q : Int → jM → Prop} (ls : List jV) (hy : plainName (jyn y).cls = true) (hl : (jent av).length ≤ jyl y) (hrc : jyr y = some .char) (hls : ls = jpad (jyl y) (jent av)) (h : G y (sh ++ jyw y) sh m 0 ls [] (fun r m' => (∃ b, r = jand b 255) ∧ Q r m')) : M y av sh m Q := by
  intro w l
  refine Met.ofW (cc := jyc y) (maxL := jyl y) (ret := jyr y) hy rfl ?_
  intro p e s mm args below meth c s₁ B hml hv
  obtain ⟨rfl, hH, hok, hK, hX⟩ := hv
  have hts := atoms_spec (ws := jwsM y) B.pre
  have hown : s.vm.findClass (jyn y).cls = some mm.cls := findClass_of_methodNamed B.named
  have hname : meth.name = (jyn y).name := (name_of_methodNamed B.named B.method).1
  have hlocks := B.notSynchronized
  have hr := B.returns
  have hx := B.exec
  have hb := B.bytes
  have hent := lv_entry (av.map (jcv w)) (n := jyl y) (by rw [jent_len]; exact hl)
  rw [lg_entry_eq]
  generalize (lg_sl (av.map (jcv w)) ++ List.replicate (jyl y - (lg_sl (av.map (jcv w))).length) Slot.unset).toArray = la at hent ⊢
  have hL : jL w (jyl y) ls la := by
    subst hls
    refine ⟨by simp [jpad]; omega, hent.1, hent.2.1, fun q hq => ?_⟩
    obtain ⟨i, x⟩ := q
    obtain ⟨v, h1, h9, rfl⟩ := jlv_mem.mp hq
    refine hent.2.2 _ ?_
    have h2 : (jent av)[i]? = some v := by
      by_cases hi : i < (jent av).length
      · rwa [jpad, List.getElem?_append_left hi] at h1
      · rw [jpad, List.getElem?_append_right (by omega)] at h1
        have := List.mem_of_getElem? h1
        have := List.eq_of_mem_replicate this
        subst this
        exact absurd rfl h9
    have := jent_args (w := w) av 0 i v h2 h9
    rwa [Nat.zero_add] at this
  have hokl : jok ls := by
    subst hls
    intro v hv
    rcases List.mem_append.mp hv with h | h
    · exact jok_ent hok v h
    · rw [List.eq_of_mem_replicate h]; exact j_ok9 _
  refine h w p l e _ s mm _ below meth c s.heap [] 0 0 sh.length (jns sh) _ la ⟨hx, hb, hml, hown, fun q hq => hts q (List.mem_cons_of_mem _ hq), hK, hX, Nat.le_refl _, Nat.le_refl _, hname⟩ hH va_S.rf hL hokl (fun v hv => absurd hv List.not_mem_nil) (Nat.add_zero _) (Nat.add_zero _) ?_ ?_ ?_
  · rw [List.length_append]; exact Nat.le_refl _
  · rw [jns_app]; exact Nat.le_refl _
  · intro r m' H locs cells slots pc la a1 a2 a3 a4 a5 a6 a7
    have c1 : cells = (jyw y).length := by rw [List.length_append] at a3; omega
    have c2 : slots = jns (jyw y) := by rw [jns_app] at a4; omega
    subst c1
    subst c2
    obtain ⟨⟨b, rfl⟩, a5⟩ := a5
    have hq : ∀ t : State, t.heap = H → s.WarmedH t.vm → jQc w y (sh ++ jyw y) Q (av.map (jcv w)).toArray s (.returned (jrv w y (jand b 255))) t := by
      intro t ht _
      exact ⟨jand b 255, m', rfl, a5, a6, by rw [ht]; exact a1, by rw [ht]; exact a2.1, fun q h1 h2 => by rw [ht]; exact a2.2.1 q h1 h2⟩
    simp only [jri, hrc] at a7
    simp only [jrst, hrc]
    simp only [jrv, hrc] at hq
    refine W.zret (v := Int32.ofInt (jand b 255)) (ty := .char) hx hb (hr.trans hrc) ?_ hq a2.2.2 a7
    unfold jand
    rw [j_back, j255]
    exact sc_nar _
/-! the five methods -/
theorem k_check3 {sh : jS} {m : jM} {Q : Int → jM → Prop} {i n x : Int} (i0 : 0 ≤ i) (i1 : i < n) (h : Q i m) : M iJ3_checkIndex [(0, i), (0, n), (2, x)] sh m Q := by
  refine M_intro [(0, i), (0, n), (2, x)] (by decide +kernel) (Nat.le_of_ble_eq_true rfl) rfl rfl ?_
  refine G_iloadn (pc := 0) dJ3_checkIndex_8e157_0 rfl ?_
  refine G_if_lt (pc := 1) 9 dJ3_checkIndex_8e157_1 rfl (fun c => absurd c (by omega)) (fun _ => ?_)
  refine G_iloadn (pc := 4) dJ3_checkIndex_8e157_4 rfl ?_
  refine G_iloadn (pc := 5) dJ3_checkIndex_8e157_5 rfl ?_
  refine G_icmp_lt (pc := 6) 16 dJ3_checkIndex_8e157_6 rfl (fun _ => ?_) (fun c => absurd i1 c)
  refine G_iloadn (pc := 16) dJ3_checkIndex_8e157_16 rfl ?_
  exact G_ireti (pc := 17) (st := []) (List.append_nil _) dJ3_checkIndex_8e157_17 rfl h
theorem k_check0 {sh : jS} {m : jM} {Q : Int → jM → Prop} {i n : Int} (i0 : 0 ≤ i) (i1 : i < n) (h : Q 0 m) : M iJ0_checkIndex [(0, i), (0, n)] sh m Q := by
  refine M_intro [(0, i), (0, n)] (by decide +kernel) (Nat.le_of_ble_eq_true rfl) rfl rfl ?_
  refine G_iloadn (pc := 0) dJ0_checkIndex_df160_0 rfl ?_
  refine G_iloadn (pc := 1) dJ0_checkIndex_df160_1 rfl ?_
  refine G_getsB (pc := 2) dJ0_checkIndex_df160_2 jsF4 ?_
  refine G_callS (pc := 5) [(0, i), (0, n), (2, m (-6) 0)] [] dJ0_checkIndex_df160_5 csJ_check3 rfl (Nat.le_of_ble_eq_true rfl) rfl rfl (Nat.le_of_ble_eq_true rfl) (Nat.le_of_eq (by rw [show jyw iJ0_checkIndex = [] from rfl, List.append_nil])) (Nat.le_of_eq (by rw [show jyw iJ0_checkIndex = [] from rfl, List.append_nil])) (k_check3 i0 i1 (fun _ => ?_))
  refine G_pop (pc := 8) dJ0_checkIndex_df160_8 (by decide) ?_
  exact G_ret (pc := 9) (st := []) (List.append_nil _) dJ0_checkIndex_df160_9 rfl h
theorem k_charAt1 {sh : jS} {m : jM} {Q : Int → jM → Prop} {i : Int} (i0 : 0 ≤ i) (i1 : i < 176) (h : Q (jand (wB i) 255) m) : M iJ1_charAt [(2, -5), (0, i)] sh m Q := by
  refine M_introC [(2, -5), (0, i)] (by decide +kernel) (Nat.le_of_ble_eq_true rfl) rfl rfl ?_
  refine G_iloadn (pc := 0) dJ1_charAt_3b067_0 rfl ?_
  refine G_aloadn (pc := 1) dJ1_charAt_3b067_1 rfl ?_
  refine G_slen (pc := 2) dJ1_charAt_3b067_2 ?_
  refine G_callS (pc := 3) [(0, i), (0, 176)] [] dJ1_charAt_3b067_3 csJ_check rfl (Nat.le_of_ble_eq_true rfl) rfl rfl (Nat.le_of_ble_eq_true rfl) (Nat.le_of_eq (by rw [show jyw iJ1_charAt = [] from rfl, List.append_nil])) (Nat.le_of_eq (by rw [show jyw iJ1_charAt = [] from rfl, List.append_nil])) (k_check0 i0 i1 (fun _ => ?_))
  refine G_aloadn (pc := 6) dJ1_charAt_3b067_6 rfl ?_
  refine G_iloadn (pc := 7) dJ1_charAt_3b067_7 rfl ?_
  refine G_sbald (pc := 8) dJ1_charAt_3b067_8 i0 i1 ?_
  refine G_sipush (pc := 9) dJ1_charAt_3b067_9 (by decide +kernel) (by decide) ?_
  refine G_iand (pc := 12) dJ1_charAt_3b067_12 ?_
  refine G_i2c (pc := 13) dJ1_charAt_3b067_13 ?_
  exact G_iretc (pc := 14) (List.append_nil _) dJ1_charAt_3b067_14 rfl ⟨⟨_, rfl⟩, h⟩
theorem k_isLatin1 {sh : jS} {m : jM} {Q : Int → jM → Prop} (h : Q 1 m) : M iJ0_isLatin1 [(2, -4)] sh m Q := by
  refine M_intro [(2, -4)] (by decide +kernel) (Nat.le_of_ble_eq_true rfl) rfl rfl ?_
  refine G_getsC (pc := 0) dJ0_isLatin1_aae02_0 jsF3 ?_
  refine G_if_eq (pc := 3) 17 dJ0_isLatin1_aae02_3 rfl (fun c => absurd c (by decide)) (fun _ => ?_)
  refine G_aloadn (pc := 6) dJ0_isLatin1_aae02_6 rfl ?_
  refine G_coder (pc := 7) dJ0_isLatin1_aae02_7 jsF1 ?_
  refine G_if_ne (pc := 10) 17 dJ0_isLatin1_aae02_10 rfl (fun c => absurd rfl c) (fun _ => ?_)
  refine G_iconst (pc := 13) dJ0_isLatin1_aae02_13 (by decide) ?_
  refine G_goto (pc := 14) 18 dJ0_isLatin1_aae02_14 rfl ?_
  exact G_iretz (pc := 18) (st := []) (List.append_nil _) dJ0_isLatin1_aae02_18 rfl (Or.inr rfl) h
theorem k_charAt {sh : jS} {m : jM} {Q : Int → jM → Prop} {i : Int} (i0 : 0 ≤ i) (i1 : i < 176) (h : Q (jand (wB i) 255) m) : M iJ0_charAt [(2, -4), (0, i)] sh m Q := by
  refine M_introC [(2, -4), (0, i)] (by decide +kernel) (Nat.le_of_ble_eq_true rfl) rfl rfl ?_
  refine G_aloadn (pc := 0) dJ0_charAt_5068e_0 rfl ?_
  refine G_callVs (pc := 1) [] [] dJ0_charAt_5068e_1 cvJ_isLatin1 rfl (Nat.le_of_ble_eq_true rfl) rfl rfl rfl (Nat.le_of_ble_eq_true rfl) (Nat.le_of_eq (by rw [show jyw iJ0_charAt = [] from rfl, List.append_nil])) (Nat.le_of_eq (by rw [show jyw iJ0_charAt = [] from rfl, List.append_nil])) (k_isLatin1 (fun _ => ?_))
  refine G_if_eq (pc := 4) 16 dJ0_charAt_5068e_4 rfl (fun c => absurd c (by decide)) (fun _ => ?_)
  refine G_aloadn (pc := 7) dJ0_charAt_5068e_7 rfl ?_
  refine G_value (pc := 8) dJ0_charAt_5068e_8 jsF2 ?_
  refine G_iloadn (pc := 11) dJ0_charAt_5068e_11 rfl ?_
  refine G_callS (pc := 12) [(2, -5), (0, i)] [] dJ0_charAt_5068e_12 csJ_charAt rfl (Nat.le_of_ble_eq_true rfl) rfl rfl (Nat.le_of_ble_eq_true rfl) (Nat.le_of_eq (by rw [show jyw iJ0_charAt = [] from rfl, List.append_nil])) (Nat.le_of_eq (by rw [show jyw iJ0_charAt = [] from rfl, List.append_nil])) (k_charAt1 i0 i1 (fun _ => ?_))
  exact G_iretc (pc := 15) (List.append_nil _) dJ0_charAt_5068e_15 rfl ⟨⟨_, rfl⟩, h⟩
