/-! THE LOGIC: a picture of the machine's memory in whole numbers, and one row an instruction over it.
A place is a whole number: k ≥ 0 the k-th cell made since the law began, below 0 what was there before (-1: null). -/
abbrev jV : Type := Nat × Int
abbrev jM : Type := Int → Int → Int
abbrev jS : Type := List (Nat × Nat)
/-- a method: name, code, locals, answer, level, the cells that it makes -/
abbrev jY : Type := MethodName × ByteArray × Nat × Option FieldType × Nat × jS
/-- a world: base, addresses of the places below 0, the arrays' classes by kind, the tables, what the places below 0 hold (at -1: how many) -/
abbrev jW : Type := Nat × (Int → Nat) × (Nat → ClassId) × va_G × (Int → Int → Int)
abbrev jCl : List vw_C := [(RX0, TX0, 7), (RX1, TX1, 9), (RX2, TX2, 18), (RX3, TX3, 18), (RX4, TX4, 15), (RX5, TX5, 6), (RX6, TX6, 6), (RX7, TX7, 9), (RX8, TX8, 19), (RX9, TX9, 15), (RX10, TX10, 14), (RX11, TX11, 105)]
/-- the tables' words that go from state to state by themselves -/
def jTbl : List Cond := lw_tbl.filter goodWord
/-- the links to private constructors of nest mates -/
def jisN (q : Cond) : Bool := match q with
  | .methodLinkNest .. => true
  | _ => false
def jNest : List Cond := lw_tbl.filter jisN
def jad (w : jW) (p : Int) : Nat := if 0 ≤ p then w.1 + p.toNat else w.2.1 p
def jcv (w : jW) (v : jV) : Value := match v.1 with
  | 0 => .int (Int32.ofInt v.2)
  | 1 => .long (Int64.ofInt v.2)
  | _ => if v.2 = -1 then .null else .ref (jad w v.2)
def jokv (v : jV) : Prop := (v.1 = 0 → -2147483648 ≤ v.2 ∧ v.2 ≤ 2147483647) ∧ (v.1 = 1 → -9223372036854775808 ≤ v.2 ∧ v.2 ≤ 9223372036854775807)
def jok (l : List jV) : Prop := ∀ v ∈ l, jokv v
def jtag (t : FieldType) : Nat := match t with
  | .long => 1
  | .array _ => 2
  | .object _ => 2
  | _ => 0
def jty (ci : Nat) : Nat → FieldType := match ci with
  | 0 => tyX0
  | 1 => tyX1
  | 2 => tyX2
  | 3 => tyX3
  | 4 => tyX4
  | 5 => tyX5
  | 6 => tyX6
  | 7 => tyX7
  | 8 => tyX8
  | 9 => tyX9
  | 10 => tyX10
  | _ => tyX11
/-- the tag of the i-th slot of a cell of a kind: 0 int, 1 long, 2 boolean arrays, 3 Text, 4 Plan arrays, 10 and more: objects -/
def jkt (kd i : Nat) : Nat := match kd with
  | 0 => 0
  | 1 => 1
  | 2 => 0
  | 3 => 2
  | 4 => 2
  | k => jtag (jty (k - 10) i)
def jro (w : jW) (x : Int) : Option Nat := if x = -1 then none else some (jad w x)
def jE (w : jW) (q : Nat × Nat) (f : Int → Int) : va_E := match q.1 with
  | 0 => .inl (w.2.2.1 0, q.2, .inl (fun i => Int32.ofInt (f i)))
  | 1 => .inl (w.2.2.1 1, q.2, .inr (.inl (fun i => Int64.ofInt (f i))))
  | 2 => .inl (w.2.2.1 2, q.2, .inl (fun i => Int32.ofInt (f i)))
  | 3 => .inl (w.2.2.1 3, q.2, .inr (.inr (.inr (.inr (fun i => jro w (f i))))))
  | 4 => .inl (w.2.2.1 4, q.2, .inr (.inr (.inr (.inr (fun i => jro w (f i))))))
  | k => .inr (k - 10, (List.range q.2).map (fun (i : Nat) => jcv w (jtag (jty (k - 10) i), f i)))
def jws (w : jW) (sh : jS) (m : jM) : va_W := sh.mapIdx (fun k q => (w.1 + k, jE w q (m k)))
def jmok (sh : jS) (m : jM) : Prop := ∀ (k : Nat) (q : Nat × Nat), sh[k]? = some q → ∀ i : Nat, i < q.2 → jokv (jkt q.1 i, m k i)
def jH (w : jW) (sh : jS) (m : jM) (H : Heap) : Prop := H.size = w.1 + sh.length ∧ va_P w.2.2.2.1 jCl (jws w sh m) H ∧ jmok sh m ∧ ∀ p : Int, p < 0 → m p = w.2.2.2.2 p
def jns (sh : jS) : Nat := (sh.map (fun q => q.2)).sum
def jtys (w : jW) : List (ClassId × FieldType) := [(w.2.2.1 0, .int), (w.2.2.1 1, .long), (w.2.2.1 2, .boolean), (w.2.2.1 3, .object RX8), (w.2.2.1 4, .object RX3)]
abbrev jA (w : jW) : Nat → Prop := fun q => w.1 ≤ q
def jyn (y : jY) : MethodName := y.1
def jyc (y : jY) : ByteArray := y.2.1
def jyl (y : jY) : Nat := y.2.2.1
def jyr (y : jY) : Option FieldType := y.2.2.2.1
def jyh (y : jY) : Nat := y.2.2.2.2.1
def jyw (y : jY) : jS := y.2.2.2.2.2
/-- what lies below the base and is read: the script (-2), UNTOLD (-3) -/
def jXa (w : jW) (p : Int) (s : State) : Prop := w.2.1 p < w.1 ∧ va_X (w.2.1 p) (w.2.2.2.2 p (-1)).toNat (fun j => Int32.ofInt (w.2.2.2.2 p j)) s s.heap ∧ (0 ≤ w.2.2.2.2 p (-1) ∧ w.2.2.2.2 p (-1) ≤ 2147483647) ∧ ∀ j, jokv (0, w.2.2.2.2 p j)
/-- the text of Tape's words, and its bytes -/
def wTx : String := "place   way     school  stop    right   seats   ride    walk    taxi    nurse   bus     at      bad     if      or      and     not     class   needs   far     safe    day     "
def wBy : List Int32 := [112, 108, 97, 99, 101, 32, 32, 32, 119, 97, 121, 32, 32, 32, 32, 32, 115, 99, 104, 111, 111, 108, 32, 32, 115, 116, 111, 112, 32, 32, 32, 32, 114, 105, 103, 104, 116, 32, 32, 32, 115, 101, 97, 116, 115, 32, 32, 32, 114, 105, 100, 101, 32, 32, 32, 32, 119, 97, 108, 107, 32, 32, 32, 32, 116, 97, 120, 105, 32, 32, 32, 32, 110, 117, 114, 115, 101, 32, 32, 32, 98, 117, 115, 32, 32, 32, 32, 32, 97, 116, 32, 32, 32, 32, 32, 32, 98, 97, 100, 32, 32, 32, 32, 32, 105, 102, 32, 32, 32, 32, 32, 32, 111, 114, 32, 32, 32, 32, 32, 32, 97, 110, 100, 32, 32, 32, 32, 32, 110, 111, 116, 32, 32, 32, 32, 32, 99, 108, 97, 115, 115, 32, 32, 32, 110, 101, 101, 100, 115, 32, 32, 32, 102, 97, 114, 32, 32, 32, 32, 32, 115, 97, 102, 101, 32, 32, 32, 32, 100, 97, 121, 32, 32, 32, 32, 32]
/-- the constant String (-4), its bytes (-5), the formatter of Preconditions (-6 or none, by what the place -6 holds) -/
def jSt (w : jW) (s : State) : Prop := vk_S 1 [176] [wBy] (fun _ => w.2.1 (-4)) (fun _ => w.2.1 (-5)) (jA w) s s.heap ∧ va_Z "java/lang/String" "COMPACT_STRINGS" "Z" (.int 1) (jA w) s s.heap ∧ va_Z "jdk/internal/util/Preconditions" "SIOOBE_FORMATTER" "Ljava/util/function/BiFunction;" (jcv w (2, w.2.2.2.2 (-6) 0)) (jA w) s s.heap ∧ vk_R RX6 28 wTx (w.2.1 (-4)) s
def jX (w : jW) (s : State) : Prop := w.1 ≤ s.heap.size ∧ jXa w (-2) s ∧ jXa w (-3) s ∧ (va_Z "SchoolRides$Text" "UNTOLD" "[I" (.ref (w.2.1 (-3))) (jA w) s s.heap ∧ jSt w s) ∧ va_AO RX8 s ∧ va_AO RX3 s ∧ ∀ q ∈ jNest, va_Nw q s
def jC (w : jW) (y : jY) (p : Program) (R : Room) (s : State) (mm : MethodId) (args : Array Value) (meth : Method) (c : Code) : Prop :=
  p.tables.exec = Jvm.exec ∧ c.code = jyc y ∧ c.maxLocals = jyl y ∧ s.vm.findClass (jyn y).cls = some mm.cls ∧ (∀ q ∈ jTbl, q.before args s = true) ∧ va_K w.2.2.2.1 jCl (jtys w) s ∧ jX w s ∧ jyh y + 1 ≤ R.frames ∧ 45 * jyh y + 40 ≤ R.locals ∧ meth.name = (jyn y).name
def jlv (w : jW) (ls : List jV) : List (Nat × Value) := ls.zipIdx.filterMap (fun q => if q.1.1 = 9 then none else some (q.2, jcv w q.1))
def jL (w : jW) (n : Nat) (ls : List jV) (la : Array Slot) : Prop := ls.length = n ∧ lv_has la n (jlv w ls)
def jrt (y : jY) : Nat := match jyr y with
  | some t => jtag t
  | none => 0
def jrst (w : jW) (y : jY) (r : Int) : List Value := match jyr y with
  | some t => [jcv w (jtag t, r)]
  | none => []
def jri (y : jY) : Instr := match jyr y with
  | none => .return_
  | some .long => .lreturn
  | some _ => .ireturn
def jrok (y : jY) (r : Int) : Prop := jokv (jrt y, r) ∧ (jyr y = some .boolean → r = 0 ∨ r = 1)
def jRet (w : jW) (y : jY) (p : Program) (l : Launch) (e : Env) (R : Room) (s : State) (mm : MethodId) (args : Array Value) (below : List Frame) (meth : Method) (c : Code) (c0 s0 : Nat) (Z : State → Prop) (fs : jS) (Q : Int → jM → Prop) : Prop :=
  ∀ (r : Int) (m : jM) (H : Heap) (locs : List Loc) (cells slots pc : Nat) (la : Array Slot), jH w fs m H → va_S (jA w) s.heap H locs → c0 + cells = fs.length → s0 + slots = jns fs → Q r m → jrok y r → decode (jyc y) pc = .ok (jri y, 1) → W p l e R s mm args below meth c H locs cells slots Z (F0 mm pc la (jrst w y r))
/-- from here (pc, locals, stack, memory) the method comes to its end, with Q of its answer and of the memory -/
def G (y : jY) (fs sh : jS) (m : jM) (pc : Nat) (ls st : List jV) (Q : Int → jM → Prop) : Prop :=
  ∀ (w : jW) (p : Program) (l : Launch) (e : Env) (R : Room) (s : State) (mm : MethodId) (args : Array Value) (below : List Frame) (meth : Method) (c : Code) (H : Heap) (locs : List Loc) (cells slots c0 s0 : Nat) (Z : State → Prop) (la : Array Slot),
    jC w y p R s mm args meth c → jH w sh m H → va_S (jA w) s.heap H locs → jL w (jyl y) ls la → jok ls → jok st →
    c0 + cells = sh.length → s0 + slots = jns sh → fs.length ≤ c0 + R.cells → jns fs ≤ s0 + R.slots →
    jRet w y p l e R s mm args below meth c c0 s0 Z fs Q →
    W p l e R s mm args below meth c H locs cells slots Z (F0 mm pc la (st.map (jcv w)))
/-! numbers -/
/-- 32 bits that wrap -/
def jw (x : Int) : Int := (x + 2147483648) % 4294967296 - 2147483648
def jw64 (x : Int) : Int := (x + 9223372036854775808) % 18446744073709551616 - 9223372036854775808
theorem jw_id {x : Int} (h : -2147483648 ≤ x) (h2 : x ≤ 2147483647) : jw x = x := by unfold jw; omega
theorem jw_in (x : Int) : -2147483648 ≤ jw x ∧ jw x ≤ 2147483647 := by unfold jw; omega
theorem jw64_id {x : Int} (h : -9223372036854775808 ≤ x) (h2 : x ≤ 9223372036854775807) : jw64 x = x := by unfold jw64; omega
theorem jw64_in (x : Int) : -9223372036854775808 ≤ jw64 x ∧ jw64 x ≤ 9223372036854775807 := by unfold jw64; omega
theorem j_of (x : Int) : (Int32.ofInt x).toInt = jw x := by
  rw [Int32.toInt_ofInt]
  simp only [Int.bmod_def, jw, Int32.size]
  split <;> omega
theorem j_of64 (x : Int) : (Int64.ofInt x).toInt = jw64 x := by
  rw [Int64.toInt_ofInt]
  simp only [Int.bmod_def, jw64, Int64.size]
  split <;> omega
theorem j_back (x : Int32) : Int32.ofInt x.toInt = x := Int32.ofInt_toInt x
theorem j_ofw (x : Int) : Int32.ofInt (jw x) = Int32.ofInt x := by rw [← j_of, j_back]
theorem j_ofw64 (x : Int) : Int64.ofInt (jw64 x) = Int64.ofInt x := by rw [← j_of64, Int64.ofInt_toInt]
theorem j_add (a b : Int) : Int32.ofInt a + Int32.ofInt b = Int32.ofInt (jw (a + b)) := by rw [j_ofw, Int32.ofInt_add]
theorem j_sub (a b : Int) : Int32.ofInt a - Int32.ofInt b = Int32.ofInt (jw (a - b)) := by rw [j_ofw, Int32.ofInt_sub]
theorem j_mul (a b : Int) : Int32.ofInt a * Int32.ofInt b = Int32.ofInt (jw (a * b)) := by rw [j_ofw, Int32.ofInt_mul]
theorem j_neg (a : Int) : -Int32.ofInt a = Int32.ofInt (jw (-a)) := by rw [j_ofw, Int32.ofInt_neg]
theorem j_add64 (a b : Int) : Int64.ofInt a + Int64.ofInt b = Int64.ofInt (jw64 (a + b)) := by rw [j_ofw64, Int64.ofInt_add]
theorem j_sub64 (a b : Int) : Int64.ofInt a - Int64.ofInt b = Int64.ofInt (jw64 (a - b)) := by rw [j_ofw64, Int64.ofInt_sub]
theorem j_mul64 (a b : Int) : Int64.ofInt a * Int64.ofInt b = Int64.ofInt (jw64 (a * b)) := by rw [j_ofw64, Int64.ofInt_mul]
theorem j_i {x : Int} (h : jokv (0, x)) : (Int32.ofInt x).toInt = x := by rw [j_of]; exact jw_id (h.1 rfl).1 (h.1 rfl).2
theorem j_l {x : Int} (h : jokv (1, x)) : (Int64.ofInt x).toInt = x := by rw [j_of64]; exact jw64_id (h.2 rfl).1 (h.2 rfl).2
theorem j_lt {a b : Int} (ha : jokv (0, a)) (hb : jokv (0, b)) : Int32.ofInt a < Int32.ofInt b ↔ a < b := by rw [Int32.lt_iff_toInt_lt, j_i ha, j_i hb]
theorem j_le {a b : Int} (ha : jokv (0, a)) (hb : jokv (0, b)) : Int32.ofInt a ≤ Int32.ofInt b ↔ a ≤ b := by rw [Int32.le_iff_toInt_le, j_i ha, j_i hb]
theorem j_eq {a b : Int} (ha : jokv (0, a)) (hb : jokv (0, b)) : Int32.ofInt a = Int32.ofInt b ↔ a = b := by
  constructor
  · intro h; have := congrArg Int32.toInt h; rwa [j_i ha, j_i hb] at this
  · intro h; rw [h]
theorem j_okw (x : Int) : jokv (0, jw x) := ⟨fun _ => jw_in x, fun h => (by cases h)⟩
theorem j_okw64 (x : Int) : jokv (1, jw64 x) := ⟨fun h => (by cases h), fun _ => jw64_in x⟩
theorem j_ok32 (x : Int32) : jokv (0, x.toInt) := by
  refine ⟨fun _ => ?_, fun h => (by cases h)⟩
  rw [← j_back x, j_of]
  exact jw_in _
theorem j_ok0 {n : Int} (h : -2147483648 ≤ n) (h2 : n ≤ 2147483647) : jokv (0, n) := ⟨fun _ => ⟨h, h2⟩, fun h => (by cases h)⟩
theorem j_ok2 (n : Int) : jokv (2, n) := ⟨fun h => (by cases h), fun h => (by cases h)⟩
theorem j_ok9 (n : Int) : jokv (9, n) := ⟨fun h => (by cases h), fun h => (by cases h)⟩
def jand (a b : Int) : Int := (Int32.ofInt a &&& Int32.ofInt b).toInt
def jor (a b : Int) : Int := (Int32.ofInt a ||| Int32.ofInt b).toInt
def jxor (a b : Int) : Int := (Int32.ofInt a ^^^ Int32.ofInt b).toInt
def jshl (a b : Int) : Int := (Int32.ofInt a <<< (Int32.ofInt b &&& 31)).toInt
def jshr (a b : Int) : Int := (Int32.ofInt a >>> (Int32.ofInt b &&& 31)).toInt
def jdiv (a b : Int) : Int := (Int32.ofInt a / Int32.ofInt b).toInt
def jrem (a b : Int) : Int := (Int32.ofInt a - Int32.ofInt a / Int32.ofInt b * Int32.ofInt b).toInt
def jcmp (a b : Int) : Int := if a < b then -1 else if a = b then 0 else 1
/-! lists of values -/
theorem jok_t {v : jV} {l : List jV} (h : jok (v :: l)) : jok l := fun x hx => h x (List.mem_cons_of_mem _ hx)
theorem jok_h {v : jV} {l : List jV} (h : jok (v :: l)) : jokv v := h v List.mem_cons_self
theorem jok_c {v : jV} {l : List jV} (h : jokv v) (h2 : jok l) : jok (v :: l) := fun x hx => (List.mem_cons.mp hx).elim (fun e => e ▸ h) (h2 x)
theorem jok_at {l : List jV} {i : Nat} {v : jV} (h : jok l) (hi : l[i]? = some v) : jokv v := h v (List.mem_of_getElem? hi)
theorem jlv_mem {w : jW} {ls : List jV} {i : Nat} {x : Value} : (i, x) ∈ jlv w ls ↔ ∃ v, ls[i]? = some v ∧ v.1 ≠ 9 ∧ x = jcv w v := by
  unfold jlv
  rw [List.mem_filterMap]
  constructor
  · rintro ⟨⟨v, j⟩, h1, h2⟩
    rw [List.mem_zipIdx_iff_getElem?] at h1
    by_cases hv : v.1 = 9
    · simp [hv] at h2
    · simp only [hv, if_false, Option.some.injEq, Prod.mk.injEq] at h2
      obtain ⟨rfl, rfl⟩ := h2
      exact ⟨v, h1, hv, rfl⟩
  · rintro ⟨v, h1, hv, rfl⟩
    exact ⟨(v, i), List.mem_zipIdx_iff_getElem?.mpr h1, by simp [hv]⟩
theorem jL_at {w : jW} {n : Nat} {ls : List jV} {la : Array Slot} (h : jL w n ls la) {i : Nat} {t : Nat} {x : Int} (hi : ls[i]? = some (t, x)) (ht : t ≠ 9) : la[i]? = some (.val (jcv w (t, x))) :=
  h.2.2.2 (i, jcv w (t, x)) (jlv_mem.mpr ⟨_, hi, ht, rfl⟩)
def jnl (ls : List jV) (i : Nat) : Bool := match i with
  | 0 => true
  | k + 1 => match ls[k]? with
    | some v => v.1 != 1
    | none => true
theorem jcat {w : jW} {v : jV} (h : v.1 ≠ 1) : (jcv w v).category ≠ 2 := by
  unfold jcv
  split
  · simp [Value.category]
  · exact absurd ‹_› h
  · split <;> simp [Value.category]
theorem jL_set1 {w : jW} {n : Nat} {ls : List jV} {la : Array Slot} {i : Nat} {v : jV} (h : ls.length = n) (hn : jnl ls i = true) (h2 : lv_has la n ((i, jcv w v) :: (jlv w ls).filter (fun q => !(q.1 == i) && !(q.1 + 1 == i && q.2.category == 2)))) : jL w n (ls.set i v) la := by
  refine ⟨by simp [h], h2.1, h2.2.1, fun q hq => ?_⟩
  obtain ⟨j, x⟩ := q
  obtain ⟨u, hu, h9, rfl⟩ := jlv_mem.mp hq
  by_cases hj : j = i
  · subst hj
    have hlt : j < ls.length := by
      have := (List.getElem?_eq_some_iff.mp hu).1
      simpa using this
    rw [List.getElem?_set_self hlt] at hu
    cases hu
    exact h2.2.2 _ List.mem_cons_self
  · rw [List.getElem?_set_ne (Ne.symm hj)] at hu
    refine h2.2.2 _ (List.mem_cons_of_mem _ (List.mem_filter.mpr ⟨jlv_mem.mpr ⟨u, hu, h9, rfl⟩, ?_⟩))
    simp only [Bool.and_eq_true, Bool.not_eq_true', beq_eq_false_iff_ne, ne_eq, Bool.and_eq_false_iff]
    refine ⟨hj, ?_⟩
    by_cases hji : j + 1 = i
    · right
      subst hji
      have : u.1 ≠ 1 := by
        simpa [jnl, hu] using hn
      exact jcat this
    · left
      exact hji
theorem jL_set2 {w : jW} {n : Nat} {ls : List jV} {la : Array Slot} {i : Nat} {v : jV} (h : ls.length = n) (hn : jnl ls i = true) (h2 : lv_has la n ((i, jcv w v) :: (jlv w ls).filter (fun q => !(q.1 == i) && (!(q.1 == i + 1) && !(q.1 + 1 == i && q.2.category == 2))))) : jL w n ((ls.set i v).set (i + 1) (9, 0)) la := by
  refine ⟨by simp [h], h2.1, h2.2.1, fun q hq => ?_⟩
  obtain ⟨j, x⟩ := q
  obtain ⟨u, hu, h9, rfl⟩ := jlv_mem.mp hq
  by_cases hk : j = i + 1
  · subst hk
    have hlt : i + 1 < (ls.set i v).length := by
      have := (List.getElem?_eq_some_iff.mp hu).1
      simpa using this
    rw [List.getElem?_set_self hlt] at hu
    cases hu
    exact absurd rfl h9
  rw [List.getElem?_set_ne (Ne.symm hk)] at hu
  by_cases hj : j = i
  · subst hj
    have hlt : j < ls.length := by
      have := (List.getElem?_eq_some_iff.mp hu).1
      simpa using this
    rw [List.getElem?_set_self hlt] at hu
    cases hu
    exact h2.2.2 _ List.mem_cons_self
  · rw [List.getElem?_set_ne (Ne.symm hj)] at hu
    refine h2.2.2 _ (List.mem_cons_of_mem _ (List.mem_filter.mpr ⟨jlv_mem.mpr ⟨u, hu, h9, rfl⟩, ?_⟩))
    simp only [Bool.and_eq_true, Bool.not_eq_true', beq_eq_false_iff_ne, ne_eq, Bool.and_eq_false_iff]
    refine ⟨hj, hk, ?_⟩
    by_cases hji : j + 1 = i
    · right
      subst hji
      have : u.1 ≠ 1 := by
        simpa [jnl, hu] using hn
      exact jcat this
    · left
      exact hji
theorem jok_set {l : List jV} {i : Nat} {v : jV} (h : jok l) (hv : jokv v) : jok (l.set i v) := fun x hx => (List.mem_or_eq_of_mem_set hx).elim (h x) (fun e => e ▸ hv)
theorem jws_at {w : jW} {sh : jS} {m : jM} {k : Nat} {q : Nat × Nat} (h : sh[k]? = some q) : (jws w sh m)[k]? = some (w.1 + k, jE w q (m k)) := by
  simp [jws, List.getElem?_mapIdx, h]
theorem jws_some {w : jW} {sh : jS} {m : jM} {k : Nat} {x : Nat × va_E} (h : (jws w sh m)[k]? = some x) : ∃ q, sh[k]? = some q ∧ x = (w.1 + k, jE w q (m k)) := by
  simp only [jws, List.getElem?_mapIdx, Option.map_eq_some_iff] at h
  obtain ⟨q, h1, h2⟩ := h
  exact ⟨q, h1, h2.symm⟩
theorem jws_D (w : jW) (sh : jS) (m : jM) : va_D (jA w) (jws w sh m) := by
  refine ⟨fun i j p q hi hj he => ?_, fun k q hk => ?_⟩
  · obtain ⟨_, _, rfl⟩ := jws_some hi
    obtain ⟨_, _, rfl⟩ := jws_some hj
    simp only at he
    omega
  · obtain ⟨_, _, rfl⟩ := jws_some hk
    exact Nat.le_add_right _ _
