/-! what constructors make, as it grows -/
def rowIs (f : Int → Int) (l : List Int) : Prop := ∀ (i : Nat) (v : Int), l[i]? = some v → f i = v
theorem rowIs_set {m : jM} {p x : Int} {k : Nat} {l : List Int} (h : rowIs (m p) l) : rowIs (jup m p (k : Int) x p) (l.set k x) := by
  intro i v hv
  rw [List.getElem?_set] at hv
  by_cases e : k = i
  · subst e
    rw [if_pos rfl] at hv
    by_cases hl : k < l.length
    · rw [if_pos hl] at hv
      cases hv
      exact jup_s
    · rw [if_neg hl] at hv; cases hv
  · rw [if_neg e] at hv
    rw [jup_j (by omega)]
    exact h i v hv
theorem rowIs_all {f : Int → Int} {l : List Int} (h : (List.range l.length).all (fun i => decide (l[i]? = some (f (i : Int)))) = true) : rowIs f l := by
  intro i v hv
  have hl : i < l.length := (List.getElem?_eq_some_iff.mp hv).1
  have := of_decide_eq_true (List.all_eq_true.mp h i (List.mem_range.mpr hl))
  rw [hv] at this
  exact (Option.some.inj this).symm
/-- the rows that aren't naught at the start -/
def iniL : List (Int × List Int) := [(0, [1, 2, 11, 12, 13, 63, 106, 120, 127, 133, 0, -1, 0, 0]), (1, [0, 0, 2, 0, 0, 0, 8, 9, 0, 10, 0, 0, 0, 0, 0]), (2, [3, 0, 4, 5, 6, 7]), (11, [12, 13, 27, 0, 0, 0, 0, 21, 22, -1, 23, 24, 25, 0, 26]), (12, [27, 39, 51]), (13, [0, 0, 14, 15, 16, 17, 18, 19, 20]), (27, [0, 0, 0, 28, 29, 30, 31, 0, 0, 32, 33, 0, 34, 0, 35, 36, 0, 37, 38]), (39, [0, 0, 0, 40, 41, 42, 43, 0, 0, 44, 45, 0, 46, 0, 47, 48, 0, 49, 50]), (51, [0, 0, 0, 52, 53, 54, 55, 0, 0, 56, 57, 0, 58, 0, 59, 60, 0, 61, 62]), (63, [64, 78, 92]), (64, [0, 65, 66, 67, 0, 68, 0, 69, 0, 0, 70, 71, 72, 73, 74, 75, 76, 77]), (78, [0, 79, 80, 81, 0, 82, 0, 83, 0, 0, 84, 85, 86, 87, 88, 89, 90, 91]), (92, [0, 93, 94, 95, 0, 96, 0, 97, 0, 0, 98, 99, 100, 101, 102, 103, 104, 105]), (106, [0, 0, 107, 0, 0, 0, 108, 109, 110, 111, 112, 113, 114, 115, 116, 117, 118, 119]), (120, [0, 121, 122, 123, 124, 125, 126, 0, 0]), (127, [0, 128, 129, 130, 131, 132, 0]), (131, [1, 1, 1, 1, 1, 1, 1, 1, 1, 1]), (133, [0, 134, 135, 136, 137, 138]), (139, [0, 140, 0, 141, 142, 143, 144, 0, 0, -1, 0, 0, 0, 0, 145, 146, 147, 148, 149, 150, 151, 152, 153, 154, 155, 156, 157, 158, 159, 160, 161, 162, 163, 164, 165, 166, 167, 168, 169, 170, 171, 0, 172, 173, 0, 174, 175, 176, 177, 178, 0, 179, 0, 180, 181, 182, 0, 183, 184, 185, 0, 186, 187, 188, 0, 0, 189, 0, 0, 0, 190, 191, 192, 193, 194, 0, 195, 196, 197, 198, 199, 200, 201, 202, 203, 204, 0, 205, 0, 0, 206, 207, 208, 209, 210, 211, 212, 213, 214, 215, 216, 217, 0, 0, 0]), (185, [1, 1, 1, 1, 1, 1, 1, 1, 1, 1])]
/-- a row at the start -/
def rowOK (q : Int) (f : Int → Int) : Prop := match iniL.lookup q with
  | some l => rowIs f l
  | none => if q = 7 then ∀ i, 0 ≤ i → i < 22 → f i = vB 32 (wd i) else f = zr
theorem rowOK_z {q : Int} (h : iniL.lookup q = none) (h7 : q ≠ 7) : rowOK q zr := by
  unfold rowOK
  rw [h, if_neg h7]
theorem rowOK_l {q : Int} {l : List Int} {f : Int → Int} (h : iniL.lookup q = some l) (hf : rowIs f l) : rowOK q f := by
  unfold rowOK
  rw [h]
  exact hf
theorem rowOK_at {q : Int} {l : List Int} {f : Int → Int} (hf : rowOK q f) (h : iniL.lookup q = some l) : rowIs f l := by
  unfold rowOK at hf
  rw [h] at hf
  exact hf
theorem rowOK_0 {q : Int} {f : Int → Int} (hf : rowOK q f) (h : iniL.lookup q = none) (h7 : q ≠ 7) : f = zr := by
  unfold rowOK at hf
  rw [h, if_neg h7] at hf
  exact hf
/-- the object at P is being made, all from lo to s stands but the open row A -/
def cI (P A lo : Int) (m0 : jM) (s : Int) (l la : List Int) (m : jM) : Prop := (P < lo ∧ lo ≤ s ∧ A < s) ∧ rowIs (m P) l ∧ (∀ q, lo ≤ q → q < s → q ≠ A → rowOK q (m q)) ∧ (∀ q, q < lo → q ≠ P → m q = m0 q) ∧ (lo ≤ A → rowIs (m A) la)
theorem ci_0 {P lo : Int} {m0 : jM} {l : List Int} (h : rowIs (m0 P) l) (e : lo = P + 1) (hP : 0 ≤ P) : cI P (-1) lo m0 lo l [] m0 := ⟨⟨by omega, Int.le_refl _, by omega⟩, h, fun q h0 h1 => by omega, fun _ _ _ => rfl, fun w => by omega⟩
theorem ci_z {P A lo s s' : Int} {m0 m : jM} {l la : List Int} (h : cI P A lo m0 s l la m) (h0 : iniL.lookup s = none) (h7 : s ≠ 7) (e : s' = s + 1) : cI P A lo m0 s' l la (jn m s zr) := by
  obtain ⟨⟨a1, a2, a3⟩, b, c, d, f⟩ := h
  refine ⟨⟨a1, by omega, by omega⟩, by rw [jn_ne (by omega)]; exact b, fun q q0 q1 q2 => ?_, fun q q0 q1 => by rw [jn_ne (by omega)]; exact d q q0 q1, fun w => by rw [jn_ne (by omega)]; exact f w⟩
  by_cases e2 : q = s
  · rw [e2, jn_s]; exact rowOK_z h0 h7
  · rw [jn_ne e2]; exact c q q0 (by omega) q2
/-- a row left open -/
theorem ci_o {P lo s s' : Int} {m0 m : jM} {l l0 la : List Int} {f : Int → Int} (h : cI P (-1) lo m0 s l l0 m) (hlo : 0 < lo) (hf : rowIs f la) (e : s' = s + 1) : cI P s lo m0 s' l la (jn m s f) := by
  obtain ⟨⟨a1, a2, a3⟩, b, c, d, -⟩ := h
  refine ⟨⟨a1, by omega, by omega⟩, by rw [jn_ne (by omega)]; exact b, fun q q0 q1 q2 => ?_, fun q q0 q1 => by rw [jn_ne (by omega)]; exact d q q0 q1, fun w => by rw [jn_s]; exact hf⟩
  rw [jn_ne q2]; exact c q q0 (by omega) (by omega)
theorem ci_put {P A lo s x k' : Int} {m0 m : jM} {l la l' : List Int} (k : Nat) (h : cI P A lo m0 s l la m) (hk : k' = (k : Int)) (e : l.set k x = l') : cI P A lo m0 s l' la (jup m P k' x) := by
  subst e; subst hk
  obtain ⟨⟨a1, a2, a3⟩, b, c, d, f⟩ := h
  exact ⟨⟨a1, a2, a3⟩, rowIs_set b, fun q q0 q1 q2 => by rw [jup_ne (by omega)]; exact c q q0 q1 q2, fun q q0 q1 => by rw [jup_ne q1]; exact d q q0 q1, fun w => by rw [jup_ne (by omega)]; exact f w⟩
theorem ci_putA {P A lo s x i' : Int} {m0 m : jM} {l la la' : List Int} (i : Nat) (h : cI P A lo m0 s l la m) (hA : lo ≤ A) (hi : i' = (i : Int)) (e : la.set i x = la') : cI P A lo m0 s l la' (jup m A i' x) := by
  subst e; subst hi
  obtain ⟨⟨a1, a2, a3⟩, b, c, d, f⟩ := h
  exact ⟨⟨a1, a2, a3⟩, by rw [jup_ne (by omega)]; exact b, fun q q0 q1 q2 => by rw [jup_ne q2]; exact c q q0 q1 q2, fun q q0 q1 => by rw [jup_ne (by omega)]; exact d q q0 q1, fun w => rowIs_set (f w)⟩
/-- what a constructor at s leaves -/
def mdO (s e : Int) (m1 m' : jM) : Prop := (∀ q, s ≤ q → q < e → rowOK q (m' q)) ∧ ∀ q, q < s → m' q = m1 q
theorem ci_call {P A lo s e : Int} {m0 m m' : jM} {l la : List Int} {f : Int → Int} (h : cI P A lo m0 s l la m) (h1 : mdO s e (jn m s f) m') (he : s ≤ e) : cI P A lo m0 e l la m' := by
  obtain ⟨⟨a1, a2, a3⟩, b, c, d, g⟩ := h
  have k : ∀ q, q < s → m' q = m q := fun q hq => by rw [h1.2 q hq, jn_ne (by omega)]
  refine ⟨⟨a1, by omega, by omega⟩, by rw [k P (by omega)]; exact b, fun q q0 q1 q2 => ?_, fun q q0 q1 => by rw [k q (by omega)]; exact d q q0 q1, fun w => by rw [k A a3]; exact g w⟩
  by_cases hs : q < s
  · rw [k q hs]; exact c q q0 hs q2
  · exact h1.1 q (by omega) q1
theorem ci_end {P A lo s : Int} {m0 m : jM} {l la : List Int} (h : cI P A lo m0 s l la m) (e : lo = P + 1) (hl : iniL.lookup P = some l) (hA : A = -1 ∨ iniL.lookup A = some la) (hP : 0 ≤ P) : mdO P s m0 m := by
  obtain ⟨⟨a1, a2, a3⟩, b, c, d, f⟩ := h
  refine ⟨fun q q0 q1 => ?_, fun q hq => d q (by omega) (by omega)⟩
  by_cases eP : q = P
  · rw [eP]; exact rowOK_l hl b
  · by_cases eA : q = A
    · rw [eA]
      rcases hA with h | h
      · omega
      · exact rowOK_l h (f (by omega))
    · exact c q (by omega) q1 eA
theorem ci_at {P A lo s : Int} {m0 m : jM} {l la : List Int} (h : cI P A lo m0 s l la m) (i : Nat) (v : Int) (e : l[i]? = some v) : m P i = v := h.2.1 i v e
theorem ci_atA {P A lo s : Int} {m0 m : jM} {l la : List Int} (h : cI P A lo m0 s l la m) (hA : lo ≤ A) (i : Nat) (v : Int) (e : la[i]? = some v) : m A i = v := h.2.2.2.2 hA i v e
theorem ci_row {P A lo s q : Int} {m0 m : jM} {l la lq : List Int} (h : cI P A lo m0 s l la m) (q0 : lo ≤ q) (q1 : q < s) (q2 : q ≠ A) (hq : iniL.lookup q = some lq) (i : Nat) (v : Int) (e : lq[i]? = some v) : m q i = v := rowOK_at (h.2.2.1 q q0 q1 q2) hq i v e
theorem ci_neg {P A lo s : Int} {m0 m : jM} {l la : List Int} (h : cI P A lo m0 s l la m) (hP : 0 ≤ P) {q : Int} (hq : q < 0) : m q = m0 q := h.2.2.2.1 q (by have := h.1.1; omega) (by omega)
theorem ci_fill {P A lo s n x : Int} {m0 m : jM} {l la la' : List Int} (h : cI P A lo m0 s l la m) (hA : lo ≤ A) (e : (List.range la'.length).all (fun i => decide (la'[i]? = some x)) = true) (hn : (la'.length : Int) = n) : cI P A lo m0 s l la' (jfill m A n x) := by
  obtain ⟨⟨a1, a2, a3⟩, b, c, d, f⟩ := h
  refine ⟨⟨a1, a2, a3⟩, by rw [jfill_ne (by omega)]; exact b, fun q q0 q1 q2 => by rw [jfill_ne q2]; exact c q q0 q1 q2, fun q q0 q1 => by rw [jfill_ne (by omega)]; exact d q q0 q1, fun w => ?_⟩
  intro i v hv
  have hl : i < la'.length := (List.getElem?_eq_some_iff.mp hv).1
  have := of_decide_eq_true (List.all_eq_true.mp e i (List.mem_range.mpr hl))
  rw [hv] at this
  rw [jfill_at (by omega) (by omega)]
  exact (Option.some.inj this).symm
/-! rows with the shapes named -/
section
variable {y : jY} {fs sh sh' : jS} {m : jM} {pc : Nat} {ls st : List jV} {Q : Int → jM → Prop}
theorem N_new {idx ci n : Nat} {C : String} {T : u_T} {L : Int} (hd : decode (jyc y) pc = .ok (.new idx, 3)) (hc : jCl[ci]? = some (C, T, n)) (hl : Cond.classLink (jyn y).cls idx C ∈ jTbl) (hi : Cond.instantiable C n ∈ jTbl) (hini : Cond.initialized C ∈ jTbl) (hok : ∀ j, j < n → jokT (jty ci j) = true) (eL : (sh.length : Int) = L) (hf1 : sh.length + 1 ≤ fs.length) (hf2 : jns sh + n ≤ jns fs) (es : sh ++ [(ci + 10, n)] = sh') (k : G y fs sh' (jn m L (jdf ci)) (pc + 3) ls ((2, L) :: st) Q) : G y fs sh m pc ls st Q := by
  subst es
  exact G_new hd hc hl hi hini hok eL hf1 hf2 k
theorem N_newI {n : Nat} {L x : Int} (hd : decode (jyc y) pc = .ok (.newarray .int, 2)) (hx : x = n) (hn : n ≤ 100000) (eL : (sh.length : Int) = L) (hf1 : sh.length + 1 ≤ fs.length) (hf2 : jns sh + n ≤ jns fs) (es : sh ++ [(0, n)] = sh') (k : G y fs sh' (jn m L zr) (pc + 2) ls ((2, L) :: st) Q) : G y fs sh m pc ls ((0, x) :: st) Q := by
  subst es
  exact G_newA (kd := 0) hd rfl (Or.inl ⟨rfl, rfl⟩) (jinT1 (List.mem_of_getElem? (i := 110) rfl) rfl) hx hn eL hf1 hf2 k
theorem N_newL {n : Nat} {L x : Int} (hd : decode (jyc y) pc = .ok (.newarray .long, 2)) (hx : x = n) (hn : n ≤ 100000) (eL : (sh.length : Int) = L) (hf1 : sh.length + 1 ≤ fs.length) (hf2 : jns sh + n ≤ jns fs) (es : sh ++ [(1, n)] = sh') (k : G y fs sh' (jn m L zr) (pc + 2) ls ((2, L) :: st) Q) : G y fs sh m pc ls ((0, x) :: st) Q := by
  subst es
  exact G_newA (kd := 1) hd rfl (Or.inr (Or.inl ⟨rfl, rfl⟩)) (jinT1 (List.mem_of_getElem? (i := 111) rfl) rfl) hx hn eL hf1 hf2 k
theorem N_newZ {n : Nat} {L x : Int} (hd : decode (jyc y) pc = .ok (.newarray .boolean, 2)) (hx : x = n) (hn : n ≤ 100000) (eL : (sh.length : Int) = L) (hf1 : sh.length + 1 ≤ fs.length) (hf2 : jns sh + n ≤ jns fs) (es : sh ++ [(2, n)] = sh') (k : G y fs sh' (jn m L zr) (pc + 2) ls ((2, L) :: st) Q) : G y fs sh m pc ls ((0, x) :: st) Q := by
  subst es
  exact G_newA (kd := 2) hd rfl (Or.inr (Or.inr ⟨rfl, rfl⟩)) (jinT2 (List.mem_of_getElem? (i := 206) rfl) rfl) hx hn eL hf1 hf2 k
theorem N_newR {kd n idx : Nat} {C : String} {L x : Int} (hd : decode (jyc y) pc = .ok (.anewarray idx, 3)) (hkd : kd = 3 ∧ C = RX8 ∨ kd = 4 ∧ C = RX3) (hl : Cond.classLink (jyn y).cls idx C ∈ jTbl) (hx : x = n) (hn : n ≤ 100000) (eL : (sh.length : Int) = L) (hf1 : sh.length + 1 ≤ fs.length) (hf2 : jns sh + n ≤ jns fs) (es : sh ++ [(kd, n)] = sh') (k : G y fs sh' (jn m L m1r) (pc + 3) ls ((2, L) :: st) Q) : G y fs sh m pc ls ((0, x) :: st) Q := by
  subst es
  exact G_newR hd hkd hl hx hn eL hf1 hf2 k
theorem N_callI {y2 : jY} {idx n : Nat} {p : Int} {stk : List jV} (av st : List jV) (hd : decode (jyc y) pc = .ok (.invokespecial idx, 3)) (hl : jCI (jyn y).cls idx y2 n ∨ ∃ host, jCN (jyn y).cls host idx y2 n) (hn : av.length = n) (hh : jyh y2 < jyh y) (hp : 0 ≤ p) (hst : stk = av.reverse ++ (2, p) :: st) (hcat : jcats st ≤ 8) (es : sh ++ jyw y2 = sh') (hf1 : sh'.length ≤ fs.length) (hf2 : jns sh' ≤ jns fs) (hy : jyr y2 = none)
    (k : M y2 ((2, p) :: av) sh m (fun r m' => G y fs sh' m' (pc + 3) ls st Q)) : G y fs sh m pc ls stk Q := by
  subst es
  refine G_callI av st hd hl hn hh hp hst hcat hf1 hf2 (M_mono k (fun r m' q _ => ?_))
  have e : jpush y2 r st = st := by unfold jpush; rw [hy]
  rw [e]
  exact q
theorem N_intro {av : List jV} (ls : List jV) (hy : plainName (jyn y).cls = true) (hl : (jent av).length ≤ jyl y) (hrg : jrg (jyr y) = true) (hls : ls = jpad (jyl y) (jent av)) (es : sh ++ jyw y = fs) (h : G y fs sh m 0 ls [] Q) : M y av sh m Q := by
  subst es
  exact M_intro ls hy hl hrg hls h
end
theorem f_step {fs sh : jS} {m : jM} {Q : Int → jM → Prop} {p x i : Int} {n : Nat} (es : fs = sh) (hp : jat sh p 0 n) (h0 : 0 ≤ i) (h : ((n : Int) ≤ i → Q 0 m) ∧ (¬ ((n : Int) ≤ i) → G iJ7_fill_53178 fs sh (jup m p i x) 5 [(2, p), (0, x), (0, jw (i + 1)), (0, (n : Int))] [] Q)) : G iJ7_fill_53178 fs sh m 5 [(2, p), (0, x), (0, i), (0, (n : Int))] [] Q :=
  (G_iloadn (pc := 5) dJ7_fill_53178_5 rfl (G_iloadn (pc := 6) dJ7_fill_53178_6 rfl (G_icmp_ge (pc := 7) 20 dJ7_fill_53178_7 rfl (fun c1 => (G_ret (pc := 20) (st := []) es dJ7_fill_53178_20 rfl (h.1 c1))) (fun c1 => (G_aloadn (pc := 10) dJ7_fill_53178_10 rfl (G_iloadn (pc := 11) dJ7_fill_53178_11 rfl (G_iloadn (pc := 12) dJ7_fill_53178_12 rfl (G_iast (pc := 13) dJ7_fill_53178_13 hp h0 (by omega) (G_iincE (pc := 14) [(2, p), (0, x), (0, jw (i + 1)), (0, (n : Int))] dJ7_fill_53178_14 rfl rfl rfl (G_goto (pc := 17) 5 dJ7_fill_53178_17 rfl (h.2 c1)))))))))))
theorem k_fill {sh : jS} {m : jM} {Q : Int → jM → Prop} {p x : Int} {n : Nat} (hp : jat sh p 0 n) (hn : n < 2147483647) (h : Q 0 (jfill m p n x)) : M iJ7_fill_53178 [(2, p), (0, x)] sh m Q := by
  have key : G iJ7_fill_53178 (sh ++ jyw iJ7_fill_53178) sh m 5 [(2, p), (0, x), (0, 0), (0, (n : Int))] [] Q := by
    have e : m = jfill m p 0 x := by
      funext q i
      unfold jfill
      rw [if_neg (by omega)]
    have es : sh ++ jyw iJ7_fill_53178 = sh := List.append_nil _
    have L := lup (σ := jM) (n := n) (I := fun i m' => 0 ≤ i ∧ i ≤ n ∧ m' = jfill m p i x) (G := fun i m' => G iJ7_fill_53178 (sh ++ jyw iJ7_fill_53178) sh m' 5 [(2, p), (0, x), (0, i), (0, (n : Int))] [] Q) (fun i m' hi I k => by
        obtain ⟨i0, i1, rfl⟩ := I
        refine f_step es hp i0 ⟨fun c => absurd c (by omega), fun _ => ?_⟩
        rw [jw_id (by omega) (by omega)]
        refine k _ ⟨by omega, by omega, ?_⟩
        funext q j
        by_cases hq : q = p ∧ j = i
        · obtain ⟨rfl, rfl⟩ := hq
          rw [jup_s, jfill_at i0 (by omega)]
        · simp only [jup, if_neg hq, jfill]
          by_cases hq2 : q = p ∧ 0 ≤ j ∧ j < i
          · rw [if_pos hq2, if_pos ⟨hq2.1, hq2.2.1, by omega⟩]
          · rw [if_neg hq2, if_neg (fun z => hq2 ⟨z.1, z.2.1, by have : j ≠ i := fun e => hq ⟨z.1, e⟩; omega⟩)])
      (fun i m' hi I => by
        obtain ⟨i0, i1, rfl⟩ := I
        obtain rfl : i = n := by omega
        exact f_step es hp i0 ⟨fun _ => h, fun c => absurd hi c⟩) 0 m ⟨by omega, by omega, e⟩
    exact L
  exact M_intro [(2, p), (0, x), (9, 0), (9, 0)] (by decide) (Nat.le_of_ble_eq_true rfl) rfl rfl
    (G_iconst (pc := 0) dJ7_fill_53178_0 (by decide) (G_istnE (pc := 1) [(2, p), (0, x), (0, 0), (9, 0)] dJ7_fill_53178_1 (Nat.le_of_ble_eq_true rfl) rfl rfl (G_aloadn (pc := 2) dJ7_fill_53178_2 rfl (G_alene (pc := 3) (by decide) (by omega) dJ7_fill_53178_3 hp rfl (G_istnE (pc := 4) [(2, p), (0, x), (0, 0), (0, (n : Int))] dJ7_fill_53178_4 (Nat.le_of_ble_eq_true rfl) rfl rfl key)))))
