/-! the law's loop, and the claim (the frame of it is the kit's skeleton) -/
theorem law_loop {m0 : jM} (n1 : m0 (-2) (-1) ≤ 3584) (n0 : 0 ≤ m0 (-2) (-1)) (hX : ∀ j, -2147483648 ≤ m0 (-2) j ∧ m0 (-2) j ≤ 2147483647) : ∀ (N : Nat) (c : Int) (m : jM), 512 - c < N → 0 ≤ c → c ≤ 512 → Lay m → allI m → m 11 5 ≤ 10000 * c → (∀ q : Int, q < 0 → m q = m0 q) → G iL_law SH SH m 18 [(2, -2), (2, 0), (2, 139), (0, 7 * c)] [] (fun r _ => r = 1) := by
  intro N
  induction N with
  | zero => intro c m h1 _ h2 _ _ _ _; omega
  | succ N ih =>
    intro c m hN c0 c1 hL hI hs hn
    have e2 := hn (-2) (by decide)
    refine G_iloadn (pc := 18) dL_law_18 rfl ?_
    refine G_aloadn (pc := 19) dL_law_19 rfl ?_
    refine G_xlene (pc := 20) (x := m0 (-2) (-1)) (Or.inl rfl) dL_law_20 (by rw [e2]) ?_
    refine G_bipush (pc := 21) dL_law_21 (by decide +kernel) (by decide) ?_
    refine G_isub (pc := 23) dL_law_23 ?_
    rw [jw_id (x := m0 (-2) (-1) - 7) (by omega) (by omega)]
    refine G_icmp_gt (pc := 24) 1985 dL_law_24 rfl (fun _ => ?_) (fun w => ?_)
    · refine G_iconst (pc := 1985) dL_law_1985 (by decide) ?_
      exact G_iretz (pc := 1986) (st := []) rfl dL_law_1986 rfl (Or.inr rfl) rfl
    · refine G_aloadn (pc := 27) dL_law_27 rfl ?_
      refine G_iloadn (pc := 28) dL_law_28 rfl ?_
      refine G_xald (pc := 29) (n := 0) (Or.inl rfl) dL_law_29 (by omega) (by rw [e2]; omega) ?_
      refine G_bipush (pc := 30) dL_law_30 (by decide +kernel) (by decide) ?_
      refine G_iand (pc := 32) dL_law_32 ?_
      refine lc_all hL (by omega) (by rw [e2]; omega) (by rw [e2]; exact n1) (fun j => by rw [e2]; exact hX j) hI (by omega) (fun m2 hL2 hk hn2 => ?_)
      refine G_iincE (pc := 1979) [(2, -2), (2, 0), (2, 139), (0, 7 * (c + 1))] dL_law_1979 rfl rfl (by rw [jw_id (x := 7 * c + 7) (by omega) (by omega), show 7 * c + 7 = 7 * (c + 1) by omega]; rfl) ?_
      refine G_goto (pc := 1982) 18 dL_law_1982 rfl ?_
      have := hk.2
      exact ih (c + 1) m2 (by omega) (by omega) (by omega) hL2 hk.1 (by omega) (fun q hq => (hn2 q hq).trans (hn q hq))
theorem nw_L_7 : Cond.classLink RL 7 RX10 ∈ jTbl := jinT1 (List.mem_of_getElem? (i := 21) rfl) rfl
theorem nw_L_10 : Cond.classLink RL 10 RX11 ∈ jTbl := jinT6 (List.mem_of_getElem? (i := 193) rfl) rfl
theorem law_body {m0 : jM} (hu : utI m0) (h7 : m0 (-3) (-1) = 7) (n1 : m0 (-2) (-1) ≤ 3584) (n0 : 0 ≤ m0 (-2) (-1)) (hX : ∀ j, -2147483648 ≤ m0 (-2) j ∧ m0 (-2) j ≤ 2147483647) : G iL_law SH [] m0 0 [(2, -2), (9, 0), (9, 0), (9, 0)] [] (fun r _ => r = 1) := by
  refine N_new (pc := 0) (ci := 10) (L := 0) (sh' := (SH.take 1)) dL_law_0 rfl nw_L_7 in_X10 wnX10 ok_X10 (by decide +kernel) (by decide +kernel) (by decide +kernel) (by decide +kernel) ?_
  refine G_dup (pc := 3) dL_law_3 (by decide) ?_
  refine N_callI (pc := 4) [] [(2, 0)] dL_law_4 ci_L_9 rfl (Nat.le_of_ble_eq_true rfl) (by decide) rfl (Nat.le_of_ble_eq_true rfl) (sh' := (SH.take 139)) (by decide +kernel) (by decide +kernel) (by decide +kernel) rfl ?_
  refine k_X10_0 (by rw [jn_s]; exact df_X10) (by rw [jn_ne (by decide)]; exact h7) (fun m1 g => ?_)
  have g1n : ∀ q : Int, q < 0 → m1 q = m0 q := fun q hq => by rw [g.2 q hq, jn_ne (by omega)]
  refine G_astnE (pc := 7) [(2, -2), (2, 0), (9, 0), (9, 0)] dL_law_7 (Nat.le_of_ble_eq_true rfl) rfl rfl ?_
  refine N_new (pc := 8) (ci := 11) (L := 139) (sh' := (SH.take 140)) dL_law_8 rfl nw_L_10 in_X11 wnX11 ok_X11 (by decide +kernel) (by decide +kernel) (by decide +kernel) (by decide +kernel) ?_
  refine G_dup (pc := 11) dL_law_11 (by decide) ?_
  refine N_callI (pc := 12) [] [(2, 139)] dL_law_12 ci_L_12 rfl (Nat.le_of_ble_eq_true rfl) (by decide) rfl (Nat.le_of_ble_eq_true rfl) (sh' := SH) (by decide +kernel) (Nat.le_refl _) (Nat.le_refl _) rfl ?_
  refine k_X11_139 (by rw [jn_s]; exact df_X11) (fun m2 k => ?_)
  have k2n : ∀ q : Int, q < 139 → m2 q = m1 q := fun q hq => by rw [k.2 q hq, jn_ne (by omega)]
  have hn : ∀ q : Int, q < 0 → m2 q = m0 q := fun q hq => (k2n q (by omega)).trans (g1n q hq)
  have hI : Ini m2 := by
    intro q q0 q1
    by_cases c : q < 139
    · rw [k2n q c]; exact g.1 q q0 c
    · exact k.1 q (by omega) q1
  have hu2 : utI m2 := by
    unfold utI
    rw [hn (-3) (by decide)]
    exact hu
  refine G_astnE (pc := 15) [(2, -2), (2, 0), (2, 139), (9, 0)] dL_law_15 (Nat.le_of_ble_eq_true rfl) rfl rfl ?_
  refine G_iconst (pc := 16) dL_law_16 (by decide) ?_
  refine G_istnE (pc := 17) [(2, -2), (2, 0), (2, 139), (0, 0)] dL_law_17 (Nat.le_of_ble_eq_true rfl) rfl rfl ?_
  exact law_loop n1 n0 hX 513 0 m2 (by decide) (by decide) (by decide) (ini_lay hI hu2 (by rw [hn (-3) (by decide)]; exact h7)) (ini_all hI) (by rw [show m2 11 5 = 0 from ini_at hI 11 5 0 (by decide +kernel) (by decide) (by decide)]; decide) hn
def R_law : String := "SchoolRidesLaw"
def lw_P (b : Addr) (xs : List Int32) (args : Array Value) (s : State) : Prop := args = #[.ref b] ∧ s.IntsAt b xs ∧ xs.length ≤ 3584 ∧ (Jvm.Cond.and given_1 narrow_1).before args s = true
def lw_Q (_ : Array Value) (s : State) (o : Outcome) (t : State) : Prop := o = .returned (some (.int 1)) ∧ Framed s o t [] 600000 7302250
def lw_Z (below : List Frame) (a : Array Value) (s : State) : State → Prop := fun t => ∃ o, t.status = .running ∧ Ended t below o ∧ lw_Q a s o t
/-- the law's own end, with 1 on the stack, nothing written that was there before, its room as the claim has it -/
theorem lw_ret {p : Program} {l : Launch} {e : Env} {s : State} {m : MethodId} {below : List Frame} {meth : Method} {c : Code} {b : Nat} (hx : p.tables.exec = Jvm.exec) (hb : c.code = code) (hr : meth.sig.returnType = ret) (hlocks : meth.locks = false) {pc : Nat} {H : Heap} {ls : Array Slot} (hdg : decode code pc = .ok (.ireturn, 1)) : W p l e room_1 s m #[Value.ref b] below meth c H [] 600000 7302250 (lw_Z below #[Value.ref b] s) (F0 m pc ls [.int 1]) := by
  intro T hT X
  obtain ⟨fs, hret, hrun, hended, hW, hframe⟩ := X.leave (v := some (.int 1)) (hlocks := hlocks) (fun h => by rw [hr] at h; cases h)
  have hmeth' : T.vm.method? m = some meth := X.method'
  refine ⟨T.setFrames fs, ?_, .returned (some (.int 1)), hrun, hended, rfl, ⟨_, rfl⟩, hW, hframe⟩
  jvm_step X.here [X.here.top, hx, hb, hdg, hmeth', hr, ret, narrow_b1]
  (try refine ⟨rfl, ?_⟩); (try refine ⟨rfl, ?_⟩)
  first | (intro acts; rw [hret _ acts rfl rfl rfl]) | rw [hret _ _ rfl rfl rfl]
  exact Steps.refl _
/-- what holds at the law's entry: the machine, the code, the tables' words (any of lw_tbl by 'hts w (by decide +kernel)'), the script of L ints xs at the cell b, what the Statement gives of the start (any of its parts by flat_of_before) -/
def lw_At (p : Program) (s : State) (m : MethodId) (meth : Method) (c : Code) (b L : Nat) (xs : Nat → Int32) : Prop :=
  p.tables.exec = Jvm.exec ∧ c.code = code ∧ meth.sig.returnType = ret ∧ c.maxLocals = 4 ∧ s.vm.findClass R_law = some m.cls ∧ (∀ w ∈ lw_tbl, w.before #[Value.ref b] s = true) ∧ va_X b L xs s s.heap ∧ b < s.heap.size ∧ meth.locks = false ∧ (Jvm.Cond.and given_1 narrow_1).before #[Value.ref b] s = true ∧ meth.name = (jyn iL_law).name
theorem whole_start {p : Program} {e : Env} {s : State} {m : MethodId} {below : List Frame} {meth : Method} {c : Code} (l : Launch) (hflags : l.flags = flags0) {b L : Nat} {xs : Nat → Int32} (hL : L ≤ 3584) (C0 : lw_At p s m meth c b L xs) : W p l e room_1 s m #[Value.ref b] below meth c s.heap [] 0 0 (lw_Z below #[Value.ref b] s) (entryFrame m ([Value.ref b] : List Value).toArray 4) := by
  obtain ⟨hx, hcode, hr, hml, hown, hts, hX, hbl, hlocks, hgv, hname⟩ := C0
  obtain ⟨w, w1, w2, wK, wX, wL, wU, w7, wI⟩ := law_w hts hX hbl hL hgv
  have B := law_body (m0 := w.2.2.2.2) wU w7 (by rw [wL]; omega) (by rw [wL]; omega) wI
  have hav : ([(2, -2)] : List jV).map (jcv w) = [Value.ref b] := by rw [List.map_cons, jcv_x (by decide), w2]; rfl
  have hent := lv_entry (([(2, -2)] : List jV).map (jcv w)) (n := 4) (by rw [jent_len]; decide)
  rw [hav] at hent
  rw [lg_entry_eq]
  generalize (lg_sl [Value.ref b] ++ List.replicate (4 - (lg_sl [Value.ref b]).length) Slot.unset).toArray = la at hent ⊢
  have hLo : jL w 4 [(2, -2), (9, 0), (9, 0), (9, 0)] la := by
    refine ⟨rfl, hent.1, hent.2.1, fun q hq => ?_⟩
    obtain ⟨i, x⟩ := q
    obtain ⟨v, h1, h9, rfl⟩ := jlv_mem.mp hq
    refine hent.2.2 _ ?_
    rw [← hav]
    have h2 : (jent [(2, -2)])[i]? = some v := by
      have hl : i < 4 := (List.getElem?_eq_some_iff.mp h1).1
      have ci : i = 0 ∨ i = 1 ∨ i = 2 ∨ i = 3 := by omega
      rcases ci with rfl | rfl | rfl | rfl <;> cases h1
      · rfl
      · exact absurd rfl h9
      · exact absurd rfl h9
      · exact absurd rfl h9
    have := jent_args (w := w) [(2, -2)] 0 i v h2 h9
    rwa [Nat.zero_add] at this
  have hH : jH w [] w.2.2.2.2 s.heap := ⟨by rw [w1]; rfl, fun k q hk => (by cases hk), fun k q hk => (by cases hk), fun _ _ => rfl⟩
  have hC : jC w iL_law p room_1 s m #[Value.ref b] meth c := ⟨hx, hcode, hml, hown, fun q hq => hts q (List.mem_filter.mp hq).1, wK, wX, by decide, by decide, hname⟩
  refine B w p l e room_1 s m #[Value.ref b] below meth c s.heap [] 0 0 0 0 (lw_Z below #[Value.ref b] s) la hC hH va_S.rf hLo (fun v hv => ?_) (fun v hv => absurd hv List.not_mem_nil) rfl rfl (by decide +kernel) (by decide +kernel) ?_
  · simp only [List.mem_cons, List.not_mem_nil, or_false] at hv
    rcases hv with rfl | rfl | rfl | rfl
    · exact j_ok2 _
    · exact j_ok9 _
    · exact j_ok9 _
    · exact j_ok9 _
  · intro r m' H locs cells slots pc la' a1 a2 a3 a4 a5 a6 a7
    subst a5
    have e1 : cells = 218 := by rw [Nat.zero_add] at a3; rw [a3]; decide +kernel
    have e2 : slots = 40061 := by rw [Nat.zero_add] at a4; rw [a4]; decide +kernel
    subst e1
    subst e2
    refine va_forget (fun q hq => ?_) ?_
    · have := a2.2.2 q hq
      rw [← w1]
      exact this
    · refine W.widen (k := 600000) (n := 7302250) (by decide) (by decide) ?_
      exact lw_ret hx hcode hr hlocks a7
-- ===== YOUR PART ENDS =====
set_option maxHeartbeats 4000000 in
theorem lw_walk (l : Launch) (hflags : l.flags = flags0) (b : Addr) (xs : List Int32) : MetFree l x (headSpec (Jvm.Cond.code x code maxLocals ret :: tables_1) room_1) (lw_P b xs) (fun _ _ _ _ _ => True) lw_Q := by
  refine MetFree.of_bodyS (code := code) (maxLocals := maxLocals) (ret := ret) (by decide) ?_ ?_
  · intro args s m h hn
    obtain ⟨meth, c, h1, h2, h3, h4, h5, h6, -, -⟩ := Cond.code_spec hn (atoms_spec (ws := Jvm.Cond.code x code maxLocals ret :: tables_1) h _ List.mem_cons_self)
    exact ⟨meth, c, h1, h2, h3, h4, h5, h6⟩
  · intro p e s m args below meth c s₁ B hml0 hP _
    obtain ⟨rfl, hx, hbd, hgv⟩ := hP
    obtain ⟨scr, harrAt, hlist, hof, hsmall⟩ := hx
    obtain ⟨hcb, hkn, -, -⟩ := State.arrayAt?_spec harrAt
    have hown : s.vm.findClass R_law = some m.cls := findClass_of_methodNamed B.named
    have hts0 : ∀ c ∈ (Jvm.Cond.code x code maxLocals ret :: tables_1), c.before #[Value.ref b] s = true := atoms_spec (ws := Jvm.Cond.code x code maxLocals ret :: tables_1) B.pre
    have hts : ∀ w ∈ lw_tbl, w.before #[Value.ref b] s = true := k2_hts_sels lw_privs (fun w hw => hts0 w (List.mem_cons_of_mem _ hw)) lw_privs_ok
    have hml : c.maxLocals = 4 := B.maxLocals_eq (hts0 _ List.mem_cons_self)
    have X₀ : Stand p l e room_1 s m #[Value.ref b] below meth c s₁ [] 0 0 := Stand.of_body B
    have hh0 : s₁.heap = s.heap := by rw [B.state]; rfl
    have hsz : scr.slots.size = xs.length := by rw [← Array.length_toList, hlist, List.length_map]
    have hval : ∀ j : Nat, j < xs.length → scr.slots[j]? = some (.int (xs.getD j 0)) := fun j hj => by
      rw [← Array.getElem?_toList, hlist]
      simp [hj]
    have hbl : b < s.heap.size := (Array.getElem?_eq_some_iff.mp hcb).1
    have hX : va_X b xs.length (fun j => xs.getD j 0) s s.heap := ⟨scr, hcb, hof, hkn, hsz, hval⟩
    have K : W p l e room_1 s m #[Value.ref b] below meth c s₁.heap [] 0 0 (lw_Z below #[Value.ref b] s) (entryFrame m ([Value.ref b] : List Value).toArray 4) := by
      rw [hh0]
      exact whole_start l hflags hbd ⟨B.exec, B.bytes, B.returns, hml, hown, hts, hX, hbl, B.notSynchronized, hgv, (name_of_methodNamed B.named B.method).1⟩
    obtain ⟨t, a1, o, b1, b2, b3⟩ := K s₁ rfl X₀
    exact ⟨t, o, a1, b1, b2, b3⟩
theorem lw_pre_spec {args : Array Value} {s : State} (h : (Jvm.Cond.and given_1 narrow_1).before args s = true) (hr : rest_1_c.before args s = true) : ∃ (b : Addr) (xs : List Int32), lw_P b xs args s := by
  have hs := flat_of_before _ h
  have hq := flat_of_before _ hr
  have hc : (Cond.count 1).before args s = true := hs _ (by decide +kernel)
  have harr : (Cond.arrayOf (.arg 0) .int).before args s = true := hs _ (by decide +kernel)
  have hle : (Cond.le (.length (.arg 0)) (.int 3584)).before args s = true := hs _ (by decide +kernel)
  have hlen : (Cond.isInt (.length (.arg 0))).before args s = true := hq _ (by decide +kernel)
  have hall : (Cond.all (.arg 0) (.isInt (.elem (.arg 0) (.index 0)))).before args s = true := hq _ (by decide +kernel)
  obtain ⟨b, xs, hb, hx⟩ := State.ints_of_pre rfl harr hlen hall
  have hsm : xs.length < 2 ^ 31 := hx.choose_spec.2.2.2
  have hev : (Term.length (.arg 0)).eval args s none [] s = some (.int xs.length.toInt32) := hx.length_eval hb
  have hv := Cond.le_ints hev (show (Term.int 3584).eval args s none [] s = some (.int 3584) from rfl)
  have hd : xs.length.toInt32 ≤ 3584 := by
    simpa [Cond.before, Cond.holds, hv] using hle
  have hN : xs.length ≤ 3584 := (Int32.ofNat_le_ofNat hsm (by decide)).mp (show Int32.ofNat xs.length ≤ Int32.ofNat 3584 from hd)
  exact ⟨b, xs, Cond.one_arg hc (show args[0]? = some (.ref b) from hb), hx, hN, h⟩
theorem lw_comes (l : Launch) (hflags : l.flags = flags0) : Comes l x (Jvm.Cond.code x code maxLocals ret :: tables_1) room_1 (fun tb e args s => Calls_1 tb e args s ∧ rest_1 tb e args s ∧ Pre_1 tb e args s)
    (fun _ _ args s o t => lw_Q args s o t) := by
  intro p e ha hc hk s m args below hf hfit hheap happ hpre
  obtain ⟨b, xs, hP⟩ := lw_pre_spec hpre.2.2 hpre.2.1
  obtain ⟨k, o, h1, h2, h3, hQ⟩ := lw_walk l hflags b xs p e ha hc hk s m args below hf ((Spec.applies_iff_loose hf).mp happ).1 hP trivial
  exact ⟨k, o, h1, h2, h3, hQ⟩
theorem lw_frame {s t : State} {o : Outcome} {args : Array Value} (h : Framed s o t [] 600000 7302250) :
    Framed s o t (fieldLocs frame_1_writes args s ++ arrayLocs frame_1_arrays args s ++ staticLocs frame_1_statics s) 600000 7302250 := h
theorem lw_limb (L : Cond) (hL : ∀ (args : Array Value) (s t : State), L.after args s (.returned (some (.int 1))) t = true) :
    ArmFor flags0 classFile x code maxLocals ret World_1 tables_1 room_1 Calls_1 rest_1 Pre_1
      (fun tb e a s o t => postC L tb e a s o t ∧ Framed s o t (fieldLocs frame_1_writes a s ++ arrayLocs frame_1_arrays a s ++ staticLocs frame_1_statics s) 600000 7302250) := by
  intro l hflags _ _ p e ha hc hk s m args below hf hfit hheap happ hpre
  obtain ⟨k, o, h1, h2, h3, rfl, hF⟩ := lw_comes l hflags p e ha hc hk s m args below hf hfit hheap happ hpre
  exact ⟨k, _, h1, h2, h3, hL args s _, lw_frame hF⟩
theorem i_vc : Claimed_1_1 ∧ Claimed_1_2 := ⟨lw_limb limb_1_1 (fun args s t => by simp [limb_1_1, Cond.after, Cond.holds, Cond.value]), lw_limb limb_1_2 (fun args s t => Cond.after_iff.mpr (by
  first | (rw [show limb_1_2 = Cond.eq .result (.int 1) from rfl, Cond.eq_ints (x := 1) (y := 1) rfl rfl]; simp; done) | (simp [limb_1_2, Cond.value, Term.eval]; done)))⟩
