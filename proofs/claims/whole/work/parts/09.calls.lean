/-! a method's contract in the logic's words, calls -/
theorem jgood : ∀ q ∈ jTbl, goodWord q = true := fun q h => (List.mem_filter.mp h).2
def jwsM (y : jY) : List Cond := Cond.code (jyn y) (jyc y) (jyl y) (jyr y) :: jTbl
def jrm (y : jY) : Room := { frames := jyh y + 1, cells := (jyw y).length, slots := jns (jyw y), locals := 45 * jyh y + 40 }
def jrv (w : jW) (y : jY) (r : Int) : Option Value := match jyr y with
  | some t => some (jcv w (jtag t, r))
  | none => none
def jPc (w : jW) (av : List jV) (sh : jS) (m : jM) : Array Value → State → Prop := fun v U => v = (av.map (jcv w)).toArray ∧ jH w sh m U.heap ∧ jok av ∧ va_K w.2.2.2.1 jCl (jtys w) U ∧ jX w U
def jQc (w : jW) (y : jY) (fs : jS) (Q : Int → jM → Prop) : Array Value → State → Outcome → State → Prop := fun _ st oc t => ∃ (r : Int) (m : jM), oc = .returned (jrv w y r) ∧ Q r m ∧ jrok y r ∧ jH w fs m t.heap ∧ va_F (jA w) st t
/-- the contract: from these arguments and this memory the method ends, with Q -/
def M (y : jY) (av : List jV) (sh : jS) (m : jM) (Q : Int → jM → Prop) : Prop := ∀ (w : jW) (l : Launch), Met l (jyn y) (jwsM y) (jrm y) (jPc w av sh m) (jQc w y (sh ++ jyw y) Q) (jyw y).length (jns (jyw y)) (jA w)
theorem M_mono {y : jY} {av : List jV} {sh : jS} {m : jM} {Q Q' : Int → jM → Prop} (h : M y av sh m Q) (hq : ∀ r m, Q r m → Q' r m) : M y av sh m Q' := by
  intro w l p e ha hc hk s mm args below hf hpre hP hT
  obtain ⟨k, o, h1, h2, h3, ⟨⟨r, m', e1, e2, e3⟩, h5⟩⟩ := h w l p e ha hc hk s mm args below hf hpre hP hT
  exact ⟨k, o, h1, h2, h3, ⟨r, m', e1, hq _ _ e2, e3⟩, h5⟩
theorem jNest_is {q : Cond} (h : q ∈ jNest) : ∃ (a : String) (i : Nat) (x : MethodName) (b : String), q = .methodLinkNest a i x b := by
  have := (List.mem_filter.mp h).2
  cases q with
  | methodLinkNest a i x b => exact ⟨a, i, x, b, rfl⟩
  | _ => cases this
theorem jSt_moved {w : jW} {u U : State} (hvm : u.vm.Alike U.vm) (hr : ∀ a, vk_R RX6 28 wTx a u → vk_R RX6 28 wTx a U) (hq : ∀ q : Nat, q < w.1 → U.heap[q]? = u.heap[q]?) (h : jSt w u) : jSt w U :=
  ⟨(h.1.kept (fun a h1 h2 => hq a (Nat.not_le.mp h2))).moved hvm, (h.2.1.kept (fun a h1 h2 => hq a (Nat.not_le.mp h2))).moved hvm, (h.2.2.1.kept (fun a h1 h2 => hq a (Nat.not_le.mp h2))).moved hvm, hr _ h.2.2.2⟩
theorem jX_moved {w : jW} {u U : State} (hvm : u.vm.Alike U.vm) (hn : ∀ q ∈ jNest, va_Nw q u → va_Nw q U) (hr : ∀ a, vk_R RX6 28 wTx a u → vk_R RX6 28 wTx a U) (hz : w.1 ≤ U.heap.size) (hq : ∀ q : Nat, q < w.1 → U.heap[q]? = u.heap[q]?) (h : jX w u) : jX w U := by
  have ha : ∀ p, jXa w p u → jXa w p U := fun p g => ⟨g.1, (g.2.1.kept (hq _ g.1)).moved hvm, g.2.2⟩
  exact ⟨hz, ha _ h.2.1, ha _ h.2.2.1, ⟨(h.2.2.2.1.1.kept (fun a h1 h2 => hq a (Nat.not_le.mp h2))).moved hvm, jSt_moved hvm hr hq h.2.2.2.1.2⟩, h.2.2.2.2.1.moved hvm, h.2.2.2.2.2.1.moved hvm, fun q hq => hn q hq (h.2.2.2.2.2.2 q hq)⟩
theorem jPc_blind (w : jW) (av : List jV) (sh : jS) (m : jM) : FrameBlind (jPc w av sh m) := by
  intro a U g mk h
  obtain ⟨h1, h2, h3, h4, h5⟩ := h
  exact ⟨h1, h2, h3, va_K.moved (u := U) (U := U.calling g mk a) (Vm.Alike.refl U.vm) h4, jX_moved (u := U) (U := U.calling g mk a) (Vm.Alike.refl U.vm) (fun q hq h => by obtain ⟨_, _, _, _, rfl⟩ := jNest_is hq; exact va_Nw.same (u := U) (U := U.calling g mk a) rfl rfl h) (fun _ h => vk_R.same (u := U) (U := U.calling g mk a) rfl h) h5.1 (fun _ _ => rfl) h5⟩
theorem jPc_at {w : jW} {y : jY} {p : Program} {R : Room} {s : State} {mm : MethodId} {args : Array Value} {meth : Method} {c : Code} {sh : jS} {m : jM} {H : Heap} {locs : List Loc} {av : List jV} (C : jC w y p R s mm args meth c) (hH : jH w sh m H) (hS : va_S (jA w) s.heap H locs) (hok : jok av) : ∀ U : State, U.heap = H → s.WarmedH U.vm → jPc w av sh m (av.map (jcv w)).toArray U := by
  intro U hU hW
  have hX : jX w s := C.2.2.2.2.2.2.1
  exact ⟨rfl, by rw [hU]; exact hH, hok, va_K.moved hW.alike C.2.2.2.2.2.1, jX_moved hW.alike (fun q hq h => by obtain ⟨_, _, _, _, rfl⟩ := jNest_is hq; exact va_Nw.warmM hW h) (fun _ h => vk_R.warm hW h) (by rw [hU]; exact Nat.le_trans hX.1 hS.1) (fun q hq => by rw [hU]; exact hS.2.1 q (Nat.lt_of_lt_of_le hq hX.1) (Nat.not_le.mpr hq)) hX⟩
def jent : List jV → List jV
  | [] => []
  | v :: vs => if v.1 = 1 then v :: (9, 0) :: jent vs else v :: jent vs
def jpad (n : Nat) (l : List jV) : List jV := l ++ List.replicate (n - l.length) (9, 0)
theorem jent_args {w : jW} : ∀ (vs : List jV) (k i : Nat) (v : jV), (jent vs)[i]? = some v → v.1 ≠ 9 → (k + i, jcv w v) ∈ lv_args k (vs.map (jcv w)) := by
  intro vs
  induction vs with
  | nil => intro k i v h; simp [jent] at h
  | cons u vs ih =>
    intro k i v h h9
    by_cases hu : u.1 = 1
    · simp only [jent, hu, if_true] at h
      have hcat : (jcv w u).category = 2 := by
        obtain ⟨t, x⟩ := u
        simp only at hu
        subst hu
        rfl
      simp only [List.map_cons, lv_args, hcat, if_true]
      match i, h with
      | 0, h => cases h; exact List.mem_cons_self
      | 1, h => cases h; exact absurd rfl h9
      | i + 2, h =>
        refine List.mem_cons_of_mem _ ?_
        have := ih (k + 2) i v (by simpa using h) h9
        rwa [show k + 2 + i = k + (i + 2) by omega] at this
    · simp only [jent, hu, if_false] at h
      have hcat : ¬ (jcv w u).category = 2 := jcat hu
      simp only [List.map_cons, lv_args, hcat, if_false]
      match i, h with
      | 0, h => cases h; exact List.mem_cons_self
      | i + 1, h =>
        refine List.mem_cons_of_mem _ ?_
        have := ih (k + 1) i v (by simpa using h) h9
        rwa [show k + 1 + i = k + (i + 1) by omega] at this
theorem jent_len {w : jW} : ∀ vs : List jV, (lg_sl (vs.map (jcv w))).length = (jent vs).length := by
  intro vs
  induction vs with
  | nil => rfl
  | cons u vs ih =>
    by_cases hu : u.1 = 1
    · have hcat : (jcv w u).category = 2 := by
        obtain ⟨t, x⟩ := u
        simp only at hu
        subst hu
        rfl
      simp only [lg_sl, List.map_cons, List.flatMap_cons, hcat, if_true, jent, hu, List.length_append, List.length_cons, List.length_nil] at ih ⊢
      omega
    · have hcat : ¬ (jcv w u).category = 2 := jcat hu
      simp only [lg_sl, List.map_cons, List.flatMap_cons, hcat, if_false, jent, hu, List.length_append, List.length_cons, List.length_nil] at ih ⊢
      omega
theorem jok_ent : ∀ {vs : List jV}, jok vs → jok (jent vs) := by
  intro vs
  induction vs with
  | nil => intro h; exact h
  | cons u vs ih =>
    intro h
    by_cases hu : u.1 = 1
    · simp only [jent, hu, if_true]
      exact jok_c (jok_h h) (jok_c (j_ok9 _) (ih (jok_t h)))
    · simp only [jent, hu, if_false]
      exact jok_c (jok_h h) (ih (jok_t h))
theorem jns_app (a b : jS) : jns (a ++ b) = jns a + jns b := by simp [jns]
def jrg (t : Option FieldType) : Bool := match t with
  | none => true
  | some .int => true
  | some .boolean => true
  | some .long => true
  | _ => false
set_option maxHeartbeats 4000000 in
theorem M_intro {y : jY} {av : List jV} {sh : jS} {m : jM} {Q : Int → jM → Prop} (ls : List jV) (hy : plainName (jyn y).cls = true) (hl : (jent av).length ≤ jyl y) (hrg : jrg (jyr y) = true) (hls : ls = jpad (jyl y) (jent av)) (h : G y (sh ++ jyw y) sh m 0 ls [] Q) : M y av sh m Q := by
  intro w l
  refine Met.ofW (cc := jyc y) (maxL := jyl y) (ret := jyr y) hy rfl ?_
  intro p e s mm args below meth c s₁ B hml hv
  obtain ⟨rfl, hH, hok, hK, hX⟩ := hv
  have hts := atoms_spec (ws := jwsM y) B.pre
  have hown : s.vm.findClass (jyn y).cls = some mm.cls := findClass_of_methodNamed B.named
  have hname : meth.name = (jyn y).name := (name_of_methodNamed B.named B.method).1
  have hlocks := B.notSynchronized
  have hr := B.returns
  have hx := B.exec
  have hb := B.bytes
  have hent := lv_entry (av.map (jcv w)) (n := jyl y) (by rw [jent_len]; exact hl)
  rw [lg_entry_eq]
  generalize (lg_sl (av.map (jcv w)) ++ List.replicate (jyl y - (lg_sl (av.map (jcv w))).length) Slot.unset).toArray = la at hent ⊢
  have hL : jL w (jyl y) ls la := by
    subst hls
    refine ⟨by simp [jpad]; omega, hent.1, hent.2.1, fun q hq => ?_⟩
    obtain ⟨i, x⟩ := q
    obtain ⟨v, h1, h9, rfl⟩ := jlv_mem.mp hq
    refine hent.2.2 _ ?_
    have h2 : (jent av)[i]? = some v := by
      by_cases hi : i < (jent av).length
      · rwa [jpad, List.getElem?_append_left hi] at h1
      · rw [jpad, List.getElem?_append_right (by omega)] at h1
        have := List.mem_of_getElem? h1
        have := List.eq_of_mem_replicate this
        subst this
        exact absurd rfl h9
    have := jent_args (w := w) av 0 i v h2 h9
    rwa [Nat.zero_add] at this
  have hokl : jok ls := by
    subst hls
    intro v hv
    rcases List.mem_append.mp hv with h | h
    · exact jok_ent hok v h
    · rw [List.eq_of_mem_replicate h]; exact j_ok9 _
  refine h w p l e _ s mm _ below meth c s.heap [] 0 0 sh.length (jns sh) _ la ⟨hx, hb, hml, hown, fun q hq => hts q (List.mem_cons_of_mem _ hq), hK, hX, Nat.le_refl _, Nat.le_refl _, hname⟩ hH va_S.rf hL hokl (fun v hv => absurd hv List.not_mem_nil) (Nat.add_zero _) (Nat.add_zero _) ?_ ?_ ?_
  · rw [List.length_append]; exact Nat.le_refl _
  · rw [jns_app]; exact Nat.le_refl _
  · intro r m' H locs cells slots pc la a1 a2 a3 a4 a5 a6 a7
    have c1 : cells = (jyw y).length := by rw [List.length_append] at a3; omega
    have c2 : slots = jns (jyw y) := by rw [jns_app] at a4; omega
    subst c1
    subst c2
    have hq : ∀ t : State, t.heap = H → s.WarmedH t.vm → jQc w y (sh ++ jyw y) Q (av.map (jcv w)).toArray s (.returned (jrv w y r)) t := by
      intro t ht _
      exact ⟨r, m', rfl, a5, a6, by rw [ht]; exact a1, by rw [ht]; exact a2.1, fun q h1 h2 => by rw [ht]; exact a2.2.1 q h1 h2⟩
    match hyr : jyr y, hrg with
    | none, _ =>
      simp only [jri, hyr] at a7
      simp only [jrst, hyr]
      simp only [jrv, hyr] at hq
      exact W.vret hx hb (hr.trans hyr) hq a2.2.2 a7
    | some .int, _ =>
      simp only [jri, hyr] at a7
      simp only [jrst, hyr]
      simp only [jrv, hyr] at hq
      exact W.iret (v := Int32.ofInt r) hx hb (hr.trans hyr) hq a2.2.2 a7
    | some .boolean, _ =>
      simp only [jri, hyr] at a7
      simp only [jrst, hyr]
      simp only [jrv, hyr] at hq
      exact W.zret (v := Int32.ofInt r) (ty := .boolean) hx hb (hr.trans hyr) (jfit_ok (w := w) (ty := .boolean) (a6.2 hyr)).1 hq a2.2.2 a7
    | some .long, _ =>
      simp only [jri, hyr] at a7
      simp only [jrst, hyr]
      simp only [jrv, hyr] at hq
      exact W.lret (v := Int64.ofInt r) hx hb (hr.trans hyr) hq a2.2.2 a7
/-- what comes back from a call: the answer on the stack -/
def jpush (y : jY) (r : Int) (st : List jV) : List jV := match jyr y with
  | some t => (jtag t, r) :: st
  | none => st
theorem jpush_map {w : jW} {y : jY} {r : Int} {st : List jV} : (jpush y r st).map (jcv w) = (jrv w y r).toList ++ st.map (jcv w) := by
  unfold jpush jrv
  cases jyr y <;> simp
theorem jpush_ok {y : jY} {r : Int} {st : List jV} (h : jrok y r) (h2 : jok st) : jok (jpush y r st) := by
  unfold jpush
  have h := h.1
  unfold jrt at h
  cases hy : jyr y with
  | none => exact h2
  | some t => rw [hy] at h; exact jok_c h h2
theorem G_back {y y2 : jY} {fs sh : jS} {m : jM} {pc : Nat} {ls st : List jV} {stkv : List Value} {Q : Int → jM → Prop} {w : jW} {p : Program} {l : Launch} {e : Env} {R : Room} {s : State} {mm : MethodId} {args : Array Value} {below : List Frame} {meth : Method} {c : Code} {H : Heap} {locs : List Loc} {cells slots c0 s0 : Nat} {Z : State → Prop} {la : Array Slot} {a : Array Value}
    (C : jC w y p R s mm args meth c) (hH : jH w sh m H) (hS : va_S (jA w) s.heap H locs) (hL : jL w (jyl y) ls la) (h1 : jok ls) (h2 : jok st) (hc : c0 + cells = sh.length) (hs : s0 + slots = jns sh) (hfc : fs.length ≤ c0 + R.cells) (hfs : jns fs ≤ s0 + R.slots) (hret : jRet w y p l e R s mm args below meth c c0 s0 Z fs Q)
    (hr : va_Run p l e R s mm args below meth c H locs cells slots (jyw y2).length (jns (jyw y2)) (F0 mm pc la stkv) (st.map (jcv w)) (jQc w y2 (sh ++ jyw y2) (fun r m' => (∀ q : Int, q < 0 → m' q = m q) → G y fs (sh ++ jyw y2) m' (pc + 3) ls (jpush y2 r st) Q) a) (jA w)) : W p l e R s mm args below meth c H locs cells slots Z (F0 mm pc la stkv) := by
  intro T hT X
  obtain ⟨v, st₀, t, T', L, e1, X', hL', e2, e3, ⟨r, m', q1, q2, q3, q4, q5⟩, go⟩ := hr T hT X
  cases q1
  have hS' : va_S (jA w) s.heap T'.heap (locs ++ L) := by
    rw [e2]
    refine ⟨Nat.le_trans hS.1 (by rw [← e1]; exact q5.1), fun q h1 h2 => ?_, fun x hx => ?_⟩
    · rw [q5.2 q (by rw [e1]; exact Nat.lt_of_lt_of_le h1 hS.1) h2, e1]
      exact hS.2.1 q h1 h2
    · rcases List.mem_append.mp hx with h | h
      · exact hS.2.2 x h
      · exact hL' x h
  have K := q2 (fun q hq => (q4.2.2.2 q hq).trans (hH.2.2.2 q hq).symm) w p l e R s mm args below meth c T'.heap (locs ++ L) (cells + (jyw y2).length) (slots + jns (jyw y2)) c0 s0 Z la C (by rw [e2]; exact q4) hS' hL h1 (jpush_ok q3 h2) (by rw [List.length_append]; omega) (by rw [jns_app]; omega) hfc hfs hret
  rw [jpush_map] at K
  exact W.then go X' K

/-- the words of a call: pool entry to method, by the class of the code -/
def jCV (own : String) (idx : Nat) (y : jY) (n : Nat) : Prop := Cond.methodLink own idx (jyn y) ∈ jTbl ∧ Cond.instanceMethod (jyn y) ∈ jTbl ∧ Cond.selects (jyn y).cls (jyn y) (jyn y) ∈ jTbl ∧ Cond.code (jyn y) (jyc y) (jyl y) (jyr y) ∈ jTbl ∧ Cond.initialized (jyn y).cls ∈ jTbl ∧ ((jyn y).cls ≠ "java/lang/invoke/MethodHandle" ∧ (jyn y).cls ≠ "java/lang/invoke/VarHandle" ∧ (parseMethodDescriptor (jyn y).desc).map (fun d => d.parameters.length) = some n) ∧ jyl y ≤ 26
def jCS (own : String) (idx : Nat) (y : jY) (n : Nat) : Prop := Cond.methodLink own idx (jyn y) ∈ jTbl ∧ Cond.static (jyn y) ∈ jTbl ∧ Cond.code (jyn y) (jyc y) (jyl y) (jyr y) ∈ jTbl ∧ Cond.initialized (jyn y).cls ∈ jTbl ∧ ((jyn y).cls ≠ "java/lang/invoke/MethodHandle" ∧ (jyn y).cls ≠ "java/lang/invoke/VarHandle" ∧ (parseMethodDescriptor (jyn y).desc).map (fun d => d.parameters.length) = some n) ∧ jyl y ≤ 26
def jCSN (own host : String) (idx : Nat) (y : jY) (n : Nat) : Prop := Cond.methodLinkNest own idx (jyn y) host ∈ jNest ∧ Cond.static (jyn y) ∈ jTbl ∧ Cond.code (jyn y) (jyc y) (jyl y) (jyr y) ∈ jTbl ∧ Cond.initialized (jyn y).cls ∈ jTbl ∧ ((jyn y).cls ≠ "java/lang/invoke/MethodHandle" ∧ (jyn y).cls ≠ "java/lang/invoke/VarHandle" ∧ (parseMethodDescriptor (jyn y).desc).map (fun d => d.parameters.length) = some n) ∧ jyl y ≤ 26
def jCI (own : String) (idx : Nat) (y : jY) (n : Nat) : Prop := Cond.methodLink own idx (jyn y) ∈ jTbl ∧ (jyn y).name = "<init>" ∧ jyr y = none ∧ Cond.instanceMethod (jyn y) ∈ jTbl ∧ Cond.code (jyn y) (jyc y) (jyl y) (jyr y) ∈ jTbl ∧ Cond.initialized (jyn y).cls ∈ jTbl ∧ ((jyn y).cls ≠ "java/lang/invoke/MethodHandle" ∧ (jyn y).cls ≠ "java/lang/invoke/VarHandle" ∧ (parseMethodDescriptor (jyn y).desc).map (fun d => d.parameters.length) = some n) ∧ jyl y ≤ 26
def jCN (own host : String) (idx : Nat) (y : jY) (n : Nat) : Prop := Cond.methodLinkNest own idx (jyn y) host ∈ jNest ∧ (jyn y).name = "<init>" ∧ jyr y = none ∧ Cond.instanceMethod (jyn y) ∈ jTbl ∧ Cond.code (jyn y) (jyc y) (jyl y) (jyr y) ∈ jTbl ∧ Cond.initialized (jyn y).cls ∈ jTbl ∧ ((jyn y).cls ≠ "java/lang/invoke/MethodHandle" ∧ (jyn y).cls ≠ "java/lang/invoke/VarHandle" ∧ (parseMethodDescriptor (jyn y).desc).map (fun d => d.parameters.length) = some n) ∧ jyl y ≤ 26
theorem jGI {y : jY} (h : Cond.code (jyn y) (jyc y) (jyl y) (jyr y) ∈ jTbl) : GoodIn jTbl (jwsM y) := by
  intro q hq
  rcases List.mem_cons.mp hq with rfl | hq
  · exact ⟨h, good_of_word (jgood _ h)⟩
  · exact ⟨hq, good_of_word (jgood _ hq)⟩
def jcats (st : List jV) : Nat := (st.map (fun v => if v.1 = 1 then 2 else 1)).sum
theorem jcats_ok {w : jW} (st : List jV) : ((st.map (jcv w)).map fun v => v.category).sum ≤ jcats st := by
  induction st with
  | nil => exact Nat.le_refl _
  | cons v st ih =>
    have : (jcv w v).category ≤ (if v.1 = 1 then 2 else 1) := by
      by_cases h : v.1 = 1
      · rw [if_pos h]; rcases lv_cat (jcv w v) with q | q <;> omega
      · rw [if_neg h]; have := (lv_cat (jcv w v)).resolve_right (jcat h); omega
    simp only [jcats, List.map_cons, List.sum_cons] at ih ⊢
    omega
theorem G_callV {y y2 : jY} {fs sh : jS} {m : jM} {pc : Nat} {ls : List jV} {Q : Int → jM → Prop} {idx n ci nf : Nat} {p : Int} {stk : List jV} (av st : List jV) (hd : decode (jyc y) pc = .ok (.invokevirtual idx, 3)) (hl : jCV (jyn y).cls idx y2 n) (hn : av.length = n) (hh : jyh y2 < jyh y) (hw : jyw y2 = []) (hci : jCl[ci]?.map (fun q => q.1) = some (jyn y2).cls) (ha : jat sh p (ci + 10) nf) (hst : stk = av.reverse ++ (2, p) :: st) (hcat : jcats st ≤ 8) (hf1 : sh.length ≤ fs.length) (hf2 : jns sh ≤ jns fs)
    (k : M y2 ((2, p) :: av) sh m (fun r m' => (∀ q : Int, q < 0 → m' q = m q) → G y fs sh m' (pc + 3) ls (jpush y2 r st) Q)) : G y fs sh m pc ls stk Q := by
  intro w pr l e R s mm args below meth c H locs cells slots c0 s0 Z la C hH hS hL h1 h2 hc hs hfc hfs hret
  subst hst
  obtain ⟨g1, g2, g3, g4, g5, g6, g7⟩ := hl
  have hK : va_K w.2.2.2.1 jCl (jtys w) s := C.2.2.2.2.2.1
  have hts := C.2.2.2.2.1
  have hR : (jrm y2).frames + 1 ≤ R.frames ∧ 8 + (jyl y2 + 11) + (jrm y2).locals ≤ R.locals := by
    have r1 : jyh y + 1 ≤ R.frames := C.2.2.2.2.2.2.2.1
    have r2 : 45 * jyh y + 40 ≤ R.locals := C.2.2.2.2.2.2.2.2.1
    simp only [jrm]
    omega
  obtain ⟨qc, hqc, hq1⟩ : ∃ q, jCl[ci]? = some q ∧ q.1 = (jyn y2).cls := by
    cases h : jCl[ci]? with
    | none => rw [h] at hci; cases hci
    | some q => rw [h] at hci; exact ⟨q, rfl, Option.some.inj hci⟩
  have hrecv := va_recv hK hH.2.1 hqc (jws_p ha)
  rw [hq1] at hrecv
  have hmap : (av.reverse ++ (2, p) :: st).map (jcv w) = (av.map (jcv w)).reverse ++ .ref (w.1 + p.toNat) :: st.map (jcv w) := by
    rw [List.map_append, List.map_reverse, List.map_cons, jcv_p ha.1]
  have hok : jok ((2, p) :: av) := jok_c (j_ok2 _) (fun v hv => h2 v (List.mem_append_left _ (List.mem_reverse.mpr hv)))
  have hokst : jok st := fun v hv => h2 v (List.mem_append_right _ (List.mem_cons_of_mem _ hv))
  have hPc := jPc_at (av := (2, p) :: av) C hH hS hok
  rw [List.map_cons, jcv_p ha.1] at hPc
  have hkk : M y2 ((2, p) :: av) sh m (fun r m' => (∀ q : Int, q < 0 → m' q = m q) → G y fs (sh ++ jyw y2) m' (pc + 3) ls (jpush y2 r st) Q) := by rw [hw, List.append_nil]; exact k
  rw [hmap]
  refine G_back (y2 := y2) (a := (Value.ref (w.1 + p.toNat) :: av.map (jcv w)).toArray) C hH hS hL h1 hokst hc hs hfc hfs hret ?_
  refine va_runV (As := av.map (jcv w)) (rest := st.map (jcv w)) (n := n) (ret := jyr y2) (bytes := jyc y2) (maxL := jyl y2) (C := (jyn y2).cls) (rm := jrm y2) (ws := jwsM y2) ⟨C.1, C.2.1, C.2.2.1, C.2.2.2.1, hts⟩ (hkk w l) ⟨callB_of n hts (jGI g4) rfl rfl rfl (hts _ g5) (hts _ g1) g6 hR, hts _ g2, hts _ g3⟩ ⟨jPc_blind _ _ _ _, hrecv, hPc⟩ rfl (by rw [List.length_map]; exact hn) hL.2.1 rfl (lv_room (Nat.le_trans (jcats_ok st) hcat)) hd ?_
  rw [hw]
  constructor
  · show cells + 0 ≤ R.cells; omega
  · show slots + 0 ≤ R.slots; omega
theorem G_callS {y y2 : jY} {fs sh : jS} {m : jM} {pc : Nat} {ls : List jV} {Q : Int → jM → Prop} {idx n : Nat} {stk : List jV} (av st : List jV) (hd : decode (jyc y) pc = .ok (.invokestatic idx, 3)) (hl : jCS (jyn y).cls idx y2 n) (hn : av.length = n) (hh : jyh y2 < jyh y) (hw : jyw y2 = []) (hst : stk = av.reverse ++ st) (hcat : jcats st ≤ 8) (hf1 : sh.length ≤ fs.length) (hf2 : jns sh ≤ jns fs)
    (k : M y2 av sh m (fun r m' => (∀ q : Int, q < 0 → m' q = m q) → G y fs sh m' (pc + 3) ls (jpush y2 r st) Q)) : G y fs sh m pc ls stk Q := by
  intro w pr l e R s mm args below meth c H locs cells slots c0 s0 Z la C hH hS hL h1 h2 hc hs hfc hfs hret
  subst hst
  obtain ⟨g1, g2, g4, g5, g6, g7⟩ := hl
  have hts := C.2.2.2.2.1
  have hR : (jrm y2).frames + 1 ≤ R.frames ∧ 8 + (jyl y2 + 11) + (jrm y2).locals ≤ R.locals := by
    have r1 : jyh y + 1 ≤ R.frames := C.2.2.2.2.2.2.2.1
    have r2 : 45 * jyh y + 40 ≤ R.locals := C.2.2.2.2.2.2.2.2.1
    simp only [jrm]
    omega
  have hmap : (av.reverse ++ st).map (jcv w) = (av.map (jcv w)).reverse ++ st.map (jcv w) := by
    rw [List.map_append, List.map_reverse]
  have hok : jok av := fun v hv => h2 v (List.mem_append_left _ (List.mem_reverse.mpr hv))
  have hokst : jok st := fun v hv => h2 v (List.mem_append_right _ hv)
  have hPc := jPc_at (av := av) C hH hS hok
  have hkk : M y2 av sh m (fun r m' => (∀ q : Int, q < 0 → m' q = m q) → G y fs (sh ++ jyw y2) m' (pc + 3) ls (jpush y2 r st) Q) := by rw [hw, List.append_nil]; exact k
  rw [hmap]
  refine G_back (y2 := y2) (a := (av.map (jcv w)).toArray) C hH hS hL h1 hokst hc hs hfc hfs hret ?_
  refine va_runS (As := av.map (jcv w)) (rest := st.map (jcv w)) (n := n) (ret := jyr y2) (bytes := jyc y2) (maxL := jyl y2) (rm := jrm y2) (ws := jwsM y2) ⟨C.1, C.2.1, C.2.2.1, C.2.2.2.1, hts⟩ (hkk w l) ⟨callB_of n hts (jGI g4) rfl rfl rfl (hts _ g5) (hts _ g1) g6 hR, hts _ g2⟩ ⟨jPc_blind _ _ _ _, hPc⟩ rfl (by rw [List.length_map]; exact hn) hL.2.1 rfl (lv_room (Nat.le_trans (jcats_ok st) hcat)) hd ?_
  rw [hw]
  constructor
  · show cells + 0 ≤ R.cells; omega
  · show slots + 0 ≤ R.slots; omega
theorem G_callSN {y y2 : jY} {fs sh : jS} {m : jM} {pc : Nat} {ls : List jV} {Q : Int → jM → Prop} {idx n : Nat} {stk : List jV} (av st : List jV) (hd : decode (jyc y) pc = .ok (.invokestatic idx, 3)) {host : String} (hl : jCSN (jyn y).cls host idx y2 n) (hn : av.length = n) (hh : jyh y2 < jyh y) (hw : jyw y2 = []) (hst : stk = av.reverse ++ st) (hcat : jcats st ≤ 8) (hf1 : sh.length ≤ fs.length) (hf2 : jns sh ≤ jns fs)
    (k : M y2 av sh m (fun r m' => (∀ q : Int, q < 0 → m' q = m q) → G y fs sh m' (pc + 3) ls (jpush y2 r st) Q)) : G y fs sh m pc ls stk Q := by
  intro w pr l e R s mm args below meth c H locs cells slots c0 s0 Z la C hH hS hL h1 h2 hc hs hfc hfs hret
  subst hst
  obtain ⟨g1, g2, g4, g5, g6, g7⟩ := hl
  have hts := C.2.2.2.2.1
  have hR : (jrm y2).frames + 1 ≤ R.frames ∧ 8 + (jyl y2 + 11) + (jrm y2).locals ≤ R.locals := by
    have r1 : jyh y + 1 ≤ R.frames := C.2.2.2.2.2.2.2.1
    have r2 : 45 * jyh y + 40 ≤ R.locals := C.2.2.2.2.2.2.2.2.1
    simp only [jrm]
    omega
  have hmap : (av.reverse ++ st).map (jcv w) = (av.map (jcv w)).reverse ++ st.map (jcv w) := by
    rw [List.map_append, List.map_reverse]
  have hok : jok av := fun v hv => h2 v (List.mem_append_left _ (List.mem_reverse.mpr hv))
  have hokst : jok st := fun v hv => h2 v (List.mem_append_right _ hv)
  have hPc := jPc_at (av := av) C hH hS hok
  have hkk : M y2 av sh m (fun r m' => (∀ q : Int, q < 0 → m' q = m q) → G y fs (sh ++ jyw y2) m' (pc + 3) ls (jpush y2 r st) Q) := by rw [hw, List.append_nil]; exact k
  rw [hmap]
  refine G_back (y2 := y2) (a := (av.map (jcv w)).toArray) C hH hS hL h1 hokst hc hs hfc hfs hret ?_
  have hX : jX w s := C.2.2.2.2.2.2.1
  refine va_runSN (As := av.map (jcv w)) (rest := st.map (jcv w)) (n := n) (ret := jyr y2) (bytes := jyc y2) (maxL := jyl y2) (rm := jrm y2) (ws := jwsM y2) (host := host) ⟨C.1, C.2.1, C.2.2.1, C.2.2.2.1, hts⟩ (hkk w l) ⟨va_cnB n hts (jGI g4) rfl rfl rfl (hX.2.2.2.2.2.2 _ g1) (hts _ g5) g6 hR, hts _ g2, trivial⟩ ⟨jPc_blind _ _ _ _, hPc⟩ rfl (by rw [List.length_map]; exact hn) hL.2.1 rfl (lv_room (Nat.le_trans (jcats_ok st) hcat)) hd ?_
  rw [hw]
  constructor
  · show cells + 0 ≤ R.cells; omega
  · show slots + 0 ≤ R.slots; omega
theorem G_callI {y y2 : jY} {fs sh : jS} {m : jM} {pc : Nat} {ls : List jV} {Q : Int → jM → Prop} {idx n : Nat} {p : Int} {stk : List jV} (av st : List jV) (hd : decode (jyc y) pc = .ok (.invokespecial idx, 3)) (hl : jCI (jyn y).cls idx y2 n ∨ ∃ host, jCN (jyn y).cls host idx y2 n) (hn : av.length = n) (hh : jyh y2 < jyh y) (hp : 0 ≤ p) (hst : stk = av.reverse ++ (2, p) :: st) (hcat : jcats st ≤ 8) (hf1 : (sh ++ jyw y2).length ≤ fs.length) (hf2 : jns (sh ++ jyw y2) ≤ jns fs)
    (k : M y2 ((2, p) :: av) sh m (fun r m' => (∀ q : Int, q < 0 → m' q = m q) → G y fs (sh ++ jyw y2) m' (pc + 3) ls (jpush y2 r st) Q)) : G y fs sh m pc ls stk Q := by
  intro w pr l e R s mm args below meth c H locs cells slots c0 s0 Z la C hH hS hL h1 h2 hc hs hfc hfs hret
  subst hst
  have hts := C.2.2.2.2.1
  have hR : jyl y2 ≤ 26 → (jrm y2).frames + 1 ≤ R.frames ∧ 8 + (jyl y2 + 11) + (jrm y2).locals ≤ R.locals := by
    intro g7
    have r1 : jyh y + 1 ≤ R.frames := C.2.2.2.2.2.2.2.1
    have r2 : 45 * jyh y + 40 ≤ R.locals := C.2.2.2.2.2.2.2.2.1
    simp only [jrm]
    omega
  have hmap : (av.reverse ++ (2, p) :: st).map (jcv w) = (av.map (jcv w)).reverse ++ .ref (w.1 + p.toNat) :: st.map (jcv w) := by
    rw [List.map_append, List.map_reverse, List.map_cons, jcv_p hp]
  have hok : jok ((2, p) :: av) := jok_c (j_ok2 _) (fun v hv => h2 v (List.mem_append_left _ (List.mem_reverse.mpr hv)))
  have hokst : jok st := fun v hv => h2 v (List.mem_append_right _ (List.mem_cons_of_mem _ hv))
  have hPc := jPc_at (av := (2, p) :: av) C hH hS hok
  rw [List.map_cons, jcv_p hp] at hPc
  rw [List.length_append] at hf1
  rw [jns_app] at hf2
  rw [hmap]
  refine G_back (y2 := y2) (a := (Value.ref (w.1 + p.toNat) :: av.map (jcv w)).toArray) C hH hS hL h1 hokst hc hs hfc hfs hret ?_
  have hroom : cells + (jyw y2).length ≤ R.cells ∧ slots + jns (jyw y2) ≤ R.slots := ⟨by omega, by omega⟩
  rcases hl with hl | ⟨host, hl⟩
  · obtain ⟨g1, g2, g3, g4, g5, g6, g7, g8⟩ := hl
    rw [g3] at g5
    have g5' : Cond.code (jyn y2) (jyc y2) (jyl y2) (jyr y2) ∈ jTbl := by rw [g3]; exact g5
    exact va_runI (As := av.map (jcv w)) (rest := st.map (jcv w)) (n := n) (bytes := jyc y2) (maxL := jyl y2) (rm := jrm y2) (ws := jwsM y2) ⟨C.1, C.2.1, C.2.2.1, C.2.2.2.1, hts⟩ (k w l) ⟨callB_of (ret := none) n hts (jGI g5') (by rw [jwsM, g3]) rfl rfl (hts _ g6) (hts _ g1) g7 (hR g8), g2, hts _ g4⟩ ⟨jPc_blind _ _ _ _, hPc⟩ rfl (by rw [List.length_map]; exact hn) hL.2.1 rfl (lv_room (Nat.le_trans (jcats_ok st) hcat)) hd hroom
  · obtain ⟨g1, g2, g3, g4, g5, g6, g7, g8⟩ := hl
    have g5' : Cond.code (jyn y2) (jyc y2) (jyl y2) (jyr y2) ∈ jTbl := g5
    have hX : jX w s := C.2.2.2.2.2.2.1
    exact va_runIN (As := av.map (jcv w)) (rest := st.map (jcv w)) (n := n) (bytes := jyc y2) (maxL := jyl y2) (rm := jrm y2) (ws := jwsM y2) (host := host) ⟨C.1, C.2.1, C.2.2.1, C.2.2.2.1, hts⟩ (k w l) ⟨va_cnB (ret := none) n hts (jGI g5') (by rw [jwsM, g3]) rfl rfl (hX.2.2.2.2.2.2 _ g1) (hts _ g6) g7 (hR g8), g2, hts _ g4⟩ ⟨jPc_blind _ _ _ _, hPc⟩ rfl (by rw [List.length_map]; exact hn) hL.2.1 rfl (lv_room (Nat.le_trans (jcats_ok st) hcat)) hd hroom
