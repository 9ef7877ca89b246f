/-! making objects and arrays -/
def jn (m : jM) (k : Int) (f : Int → Int) : jM := fun q => if q = k then f else m q
theorem jn_s {m : jM} {k : Int} {f : Int → Int} : jn m k f k = f := if_pos rfl
theorem jn_ne {m : jM} {k q : Int} {f : Int → Int} (h : q ≠ k) : jn m k f q = m q := if_neg h
theorem jws_app {w : jW} {sh : jS} {q : Nat × Nat} {m : jM} : jws w (sh ++ [q]) m = jws w sh m ++ [(w.1 + sh.length, jE w q (m sh.length))] := by
  unfold jws
  rw [List.mapIdx_append]
  simp
theorem jws_cg {w : jW} {sh : jS} {m m' : jM} (h : ∀ k : Nat, k < sh.length → m' k = m k) : jws w sh m' = jws w sh m := by
  apply List.ext_getElem?
  intro i
  unfold jws
  rw [List.getElem?_mapIdx, List.getElem?_mapIdx]
  cases hi : sh[i]? with
  | none => rfl
  | some q =>
    have hl : i < sh.length := (List.getElem?_eq_some_iff.mp hi).1
    simp only [Option.map_some]
    rw [h i hl]
theorem jH_new {w : jW} {sh : jS} {m : jM} {H H' : Heap} {q : Nat × Nat} {f : Int → Int} (hH : jH w sh m H) (z : H'.size = w.1 + sh.length + 1) (oq : ∀ a : Nat, a < H.size → H'[a]? = H[a]?) (he : va_at w.2.2.2.1 jCl (w.1 + sh.length, jE w q f) H') (hok : ∀ i : Nat, i < q.2 → jokv (jkt q.1 i, f i)) : jH w (sh ++ [q]) (jn m sh.length f) H' := by
  have ek : jws w sh (jn m sh.length f) = jws w sh m := jws_cg (fun k hk => jn_ne (by omega))
  refine ⟨by rw [z, List.length_append]; rfl, ?_, fun k r hk i hi => ?_, fun p hp => ?_⟩
  · rw [jws_app, ek, jn_s]
    refine (hH.2.1.kept (fun k x hx => oq x.1 ((hH.2.1 k x hx).lt))).app (fun k x hx => ?_)
    have hz : k < 1 := (List.getElem?_eq_some_iff.mp hx).1
    rw [show k = 0 by omega] at hx
    cases hx
    exact he
  · by_cases e : k < sh.length
    · rw [List.getElem?_append_left e] at hk
      rw [jn_ne (by omega)]
      exact hH.2.2.1 k r hk i hi
    · rw [List.getElem?_append_right (by omega)] at hk
      have hz : k - sh.length < 1 := (List.getElem?_eq_some_iff.mp hk).1
      rw [show k - sh.length = 0 by omega] at hk
      cases hk
      rw [show k = sh.length by omega, jn_s]
      exact hok i hi
  · rw [jn_ne (by omega)]
    exact hH.2.2.2 p hp
/-- what a new object holds -/
def jdf (ci : Nat) : Int → Int := fun i => if jtag (jty ci i.toNat) = 2 then -1 else 0
def jokT (t : FieldType) : Bool := match t with
  | .int => true
  | .long => true
  | .boolean => true
  | .array _ => true
  | .object _ => true
  | _ => false
theorem jdf_v {w : jW} {t : FieldType} (h : jokT t = true) : defaultValue t = jcv w (jtag t, if jtag t = 2 then -1 else 0) := by
  cases t with
  | int => rfl
  | long => rfl
  | boolean => rfl
  | array a => rfl
  | object c => rfl
  | _ => cases h
theorem jdf_ok (t : Nat) : jokv (t, if t = 2 then -1 else 0) := by
  by_cases h : t = 2
  · subst h; exact j_ok2 _
  · rw [if_neg h]
    exact ⟨fun _ => ⟨by show (-2147483648 : Int) ≤ 0; decide, by show (0 : Int) ≤ 2147483647; decide⟩, fun _ => ⟨by show (-9223372036854775808 : Int) ≤ 0; decide, by show (0 : Int) ≤ 9223372036854775807; decide⟩⟩
def zr : Int → Int := fun _ => 0
section
variable {y : jY} {fs sh : jS} {m : jM} {pc : Nat} {ls st : List jV} {Q : Int → jM → Prop}
theorem G_new {idx ci n : Nat} {C : String} {T : u_T} {L : Int} (hd : decode (jyc y) pc = .ok (.new idx, 3)) (hc : jCl[ci]? = some (C, T, n)) (hl : Cond.classLink (jyn y).cls idx C ∈ jTbl) (hi : Cond.instantiable C n ∈ jTbl) (hini : Cond.initialized C ∈ jTbl) (hok : ∀ j, j < n → jokT (jty ci j) = true) (eL : (sh.length : Int) = L) (hf1 : sh.length + 1 ≤ fs.length) (hf2 : jns sh + n ≤ jns fs) (k : G y fs (sh ++ [(ci + 10, n)]) (jn m L (jdf ci)) (pc + 3) ls ((2, L) :: st) Q) : G y fs sh m pc ls st Q := by
  intro w p l e R s mm args below meth c H locs cells slots c0 s0 Z la C' hH hS hL h1 h2 hcc hss hfc hfs hret
  subst eL
  have hts := C'.2.2.2.2.1
  have hK : va_K w.2.2.2.1 jCl (jtys w) s := C'.2.2.2.2.2.1
  have hKn := hK.1 ci _ hc
  obtain ⟨hin, hty, -⟩ := jcl_ok ci C T n hc
  refine W.newcK C'.1 C'.2.1 C'.2.2.2.1 (hts _ hl) (hts _ hi) (hts _ hini) rfl hd (by omega) (by omega) hKn.2.1 hH.1 fun H1 kC hkC e1 z1 o1 => ?_
  have hat : va_at w.2.2.2.1 jCl (w.1 + sh.length, jE w (ci + 10, n) (jdf ci)) H1 := by
    rw [jE_obj]
    refine ⟨_, hc, (u_born (jty ci) hts hin hKn hkC e1 hty).to (fun j hj => ?_)⟩
    show defaultValue (jty ci j) = vp_V _ j
    unfold vp_V
    rw [List.getD_eq_getElem?_getD, List.getElem?_map, List.getElem?_range hj]
    exact jdf_v (hok j hj)
  have hH1 := jH_new (q := (ci + 10, n)) (f := jdf ci) hH z1 (fun a ha => o1 a (by rw [← hH.1]; exact ha)) hat (fun i _ => jdf_ok _)
  have K := k w p l e R s mm args below meth c H1 locs (cells + 1) (slots + n) c0 s0 Z la C' hH1 ⟨Nat.le_trans hS.1 (by rw [z1, hH.1]; exact Nat.le_succ _), fun x a1 a2 => (o1 x (by have := hS.1; rw [hH.1] at this; omega)).trans (hS.2.1 x a1 a2), hS.2.2⟩ hL h1 (jok_c (j_ok2 _) h2) (by rw [List.length_append]; show c0 + (cells + 1) = sh.length + 1; omega) (by rw [jns_app]; show s0 + (slots + n) = jns sh + (n + 0); omega) hfc hfs hret
  rw [List.map_cons, jcv_p (by omega), Int.toNat_natCast] at K
  exact K
theorem G_newA {kd n : Nat} {at_ : ArrayType} {ty : FieldType} {L x : Int} (hd : decode (jyc y) pc = .ok (.newarray at_, 2)) (hty : newarray.typeOf at_ = ty) (hkd : kd = 0 ∧ ty = .int ∨ kd = 1 ∧ ty = .long ∨ kd = 2 ∧ ty = .boolean) (harr : Cond.arrayClass ty ∈ jTbl) (hx : x = n) (hn : n ≤ 100000) (eL : (sh.length : Int) = L) (hf1 : sh.length + 1 ≤ fs.length) (hf2 : jns sh + n ≤ jns fs) (k : G y fs (sh ++ [(kd, n)]) (jn m L zr) (pc + 2) ls ((2, L) :: st) Q) : G y fs sh m pc ls ((0, x) :: st) Q := by
  intro w p l e R s mm args below meth c H locs cells slots c0 s0 Z la C' hH hS hL h1 h2 hcc hss hfc hfs hret
  subst eL
  subst hx
  subst hty
  have hts := C'.2.2.2.2.1
  have hK : va_K w.2.2.2.1 jCl (jtys w) s := C'.2.2.2.2.2.1
  have hj := jok_h h2
  have hb : n * componentBytes (newarray.typeOf at_) ≤ 536870912 := by
    rcases hkd with ⟨-, h⟩ | ⟨-, h⟩ | ⟨-, h⟩ <;> rw [h] <;> simp only [componentBytes] <;> omega
  refine va_newaK C'.1 C'.2.1 (hts _ harr) (g := F0 mm pc la (.int (Int32.ofInt (n : Int)) :: st.map (jcv w))) rfl hd rfl (N := n) (fun q => ?_) (by rw [j_clamp hj (by omega), Int.toNat_natCast]) hb (by omega) (by omega) hH.1 fun H1 cA e1 z1 o1 hAr hNm => ?_
  · have := (j_lt (a := n) (b := 0) hj (j_ok0 (by decide) (by decide))).mp q
    omega
  have hcA : cA = w.2.2.1 kd := by
    rcases hkd with ⟨h0, h⟩ | ⟨h0, h⟩ | ⟨h0, h⟩
    · rw [h] at hNm
      have g : s.vm.findClass ("[" ++ FieldType.int.toString) = some (w.2.2.1 0) := (hK.2 0 _ rfl).2
      rw [h0]; exact Option.some.inj (hNm.symm.trans g)
    · rw [h] at hNm
      have g : s.vm.findClass ("[" ++ FieldType.long.toString) = some (w.2.2.1 1) := (hK.2 1 _ rfl).2
      rw [h0]; exact Option.some.inj (hNm.symm.trans g)
    · rw [h] at hNm
      have g : s.vm.findClass ("[" ++ FieldType.boolean.toString) = some (w.2.2.1 2) := (hK.2 2 _ rfl).2
      rw [h0]; exact Option.some.inj (hNm.symm.trans g)
  subst hcA
  have hat : va_at w.2.2.2.1 jCl (w.1 + sh.length, jE w (kd, n) zr) H1 := by
    rcases hkd with ⟨h0, h⟩ | ⟨h0, h⟩ | ⟨h0, h⟩
    · subst h0; rw [h] at e1; exact e1
    · subst h0; rw [h] at e1; exact e1
    · subst h0; rw [h] at e1; exact e1
  have hH1 := jH_new (q := (kd, n)) (f := zr) hH z1 (fun a ha => o1 a (by rw [← hH.1]; exact ha)) hat (fun i _ => by
    rcases hkd with ⟨h0, -⟩ | ⟨h0, -⟩ | ⟨h0, -⟩
    · subst h0; exact jdf_ok 0
    · subst h0; exact jdf_ok 1
    · subst h0; exact jdf_ok 0)
  have K := k w p l e R s mm args below meth c H1 locs (cells + 1) (slots + n) c0 s0 Z la C' hH1 ⟨Nat.le_trans hS.1 (by rw [z1, hH.1]; exact Nat.le_succ _), fun x a1 a2 => (o1 x (by have := hS.1; rw [hH.1] at this; omega)).trans (hS.2.1 x a1 a2), hS.2.2⟩ hL h1 (jok_c (j_ok2 _) (jok_t h2)) (by rw [List.length_append]; show c0 + (cells + 1) = sh.length + 1; omega) (by rw [jns_app]; show s0 + (slots + n) = jns sh + (n + 0); omega) hfc hfs hret
  rw [List.map_cons, jcv_p (by omega), Int.toNat_natCast] at K
  exact K
def m1r : Int → Int := fun _ => -1
theorem G_newR {kd n idx : Nat} {C : String} {L x : Int} (hd : decode (jyc y) pc = .ok (.anewarray idx, 3)) (hkd : kd = 3 ∧ C = RX8 ∨ kd = 4 ∧ C = RX3) (hl : Cond.classLink (jyn y).cls idx C ∈ jTbl) (hx : x = n) (hn : n ≤ 100000) (eL : (sh.length : Int) = L) (hf1 : sh.length + 1 ≤ fs.length) (hf2 : jns sh + n ≤ jns fs) (k : G y fs (sh ++ [(kd, n)]) (jn m L m1r) (pc + 3) ls ((2, L) :: st) Q) : G y fs sh m pc ls ((0, x) :: st) Q := by
  intro w p l e R s mm args below meth c H locs cells slots c0 s0 Z la C' hH hS hL h1 h2 hcc hss hfc hfs hret
  subst eL
  subst hx
  have hts := C'.2.2.2.2.1
  have hK : va_K w.2.2.2.1 jCl (jtys w) s := C'.2.2.2.2.2.1
  have hX : jX w s := C'.2.2.2.2.2.2.1
  have hj := jok_h h2
  have ho : va_AO C s := by
    rcases hkd with ⟨-, h⟩ | ⟨-, h⟩
    · rw [h]; exact hX.2.2.2.2.1
    · rw [h]; exact hX.2.2.2.2.2.1
  have hcl : (Int32.ofInt (n : Int)).toNatClampNeg = n := by rw [j_clamp hj (by omega), Int.toNat_natCast]
  refine W.anew C'.1 C'.2.1 C'.2.2.2.1 (hts _ hl) (va_AO.use ho) (g := F0 mm pc la (.int (Int32.ofInt (n : Int)) :: st.map (jcv w))) rfl hd rfl (fun q => ?_) (by rw [hcl]; omega) (by omega) (by rw [hcl]; omega) fun cA kA comp f1 f2 f3 f4 => ?_
  · have := (j_lt (a := n) (b := 0) hj (j_ok0 (by decide) (by decide))).mp q
    omega
  rw [hcl]
  generalize hH1 : H.push ({ cls := cA, slots := Array.replicate n .null, vm := .none } : Cell) = H1
  have z1 : H1.size = w.1 + sh.length + 1 := by rw [← hH1, Array.size_push, hH.1]
  have e1 : H1[w.1 + sh.length]? = some (arrV cA n (fun _ => .null)) := by rw [← hH.1, ← hH1, Array.getElem?_push_size, ← arrV_new]
  have o1 : ∀ q : Nat, q < H.size → H1[q]? = H[q]? := fun q hq => by rw [← hH1, Array.getElem?_push, if_neg (Nat.ne_of_lt hq)]
  have hcA : cA = w.2.2.1 kd := by
    rcases hkd with ⟨h0, h⟩ | ⟨h0, h⟩
    · obtain ⟨_, _, _, _, _, g⟩ := (hK.2 3 (w.2.2.1 3, .object RX8) rfl).2
      rw [h] at f1
      rw [h0]; exact Option.some.inj (f1.symm.trans g)
    · obtain ⟨_, _, _, _, _, g⟩ := (hK.2 4 (w.2.2.1 4, .object RX3) rfl).2
      rw [h] at f1
      rw [h0]; exact Option.some.inj (f1.symm.trans g)
  subst hcA
  have hat : va_at w.2.2.2.1 jCl (w.1 + sh.length, jE w (kd, n) m1r) H1 := by
    rcases hkd with ⟨h0, -⟩ | ⟨h0, -⟩
    · subst h0; exact e1
    · subst h0; exact e1
  have hH1' := jH_new (q := (kd, n)) (f := m1r) hH z1 o1 hat (fun i _ => by
    rcases hkd with ⟨h0, -⟩ | ⟨h0, -⟩
    · subst h0; exact j_ok2 _
    · subst h0; exact j_ok2 _)
  have K := k w p l e R s mm args below meth c H1 locs (cells + 1) (slots + n) c0 s0 Z la C' hH1' ⟨Nat.le_trans hS.1 (by rw [z1, hH.1]; exact Nat.le_succ _), fun x a1 a2 => (o1 x (Nat.lt_of_lt_of_le a1 hS.1)).trans (hS.2.1 x a1 a2), hS.2.2⟩ hL h1 (jok_c (j_ok2 _) (jok_t h2)) (by rw [List.length_append]; show c0 + (cells + 1) = sh.length + 1; omega) (by rw [jns_app]; show s0 + (slots + n) = jns sh + (n + 0); omega) hfc hfs hret
  rw [List.map_cons, jcv_p (by omega), Int.toNat_natCast, ← hH.1] at K
  exact K
/-- a reference put into a row of references -/
theorem G_aast {kd n ci n2 : Nat} {i p v : Int} (hkd : kd = 3 ∧ ci = 8 ∨ kd = 4 ∧ ci = 3) (hd : decode (jyc y) pc = .ok (.aastore, 1)) (ha : jat sh p kd n) (hv : jat sh v (ci + 10) n2) (h0 : 0 ≤ i) (hn : i < n) (k : G y fs sh (jup m p i v) (pc + 1) ls st Q) : G y fs sh m pc ls ((2, v) :: (0, i) :: (2, p) :: st) Q := by
  intro w pr l e R s mm args below meth c H locs cells slots c0 s0 Z la C' hH hS hL h1 h2 hc hs hfc hfs hret
  have hK : va_K w.2.2.2.1 jCl (jtys w) s := C'.2.2.2.2.2.1
  show W pr l e R s mm args below meth c H locs cells slots Z (F0 mm pc la (jcv w (2, v) :: .int (Int32.ofInt i) :: jcv w (2, p) :: st.map (jcv w)))
  rw [jcv_p ha.1, jcv_p hv.1]
  have hi := jok_h (jok_t h2)
  have hin := j_in hi h0 hn
  have fin : ∀ (H' : Heap) (cA : ClassId) (C : String), w.2.2.1 kd = cA → H'[w.1 + p.toNat]? = some ((arrV cA n (fun j => va_rf (jro w (m p j)))).setSlot (Int32.ofInt i).toNatClampNeg (.ref (w.1 + v.toNat))) → H'.size = H.size → (∀ q : Nat, q ≠ w.1 + p.toNat → H'[q]? = H[q]?) → ∀ loc : Loc, loc.base = w.1 + p.toNat → (va_S (jA w) s.heap H' (locs ++ [loc])) → W pr l e R s mm args below meth c H' (locs ++ [loc]) cells slots Z (F0 mm (pc + 1) la (st.map (jcv w))) := by
    intro H' cA C hcA e1 e2 e3 loc _ hS'
    have hmem : va_at w.2.2.2.1 jCl (w.1 + p.toNat, jE w (kd, n) (jup m p i v p)) H' := by
      have hE : va_at w.2.2.2.1 jCl (w.1 + p.toNat, .inl (cA, n, .inr (.inr (.inr (.inr (fun j => jro w (jup m p i v p j))))))) H' := by
        refine e1.trans (congrArg some ?_)
        rw [vp_cell_q, arrV_store]
        congr 1
        funext j
        rw [j_clamp hi h0]
        by_cases hj : j = i.toNat
        · subst hj
          simp only [updV, if_true]
          rw [j_cast h0, jup_s]
          have : v ≠ -1 := by have := hv.1; omega
          simp [jro, this, va_rf, jad_p hv.1]
        · simp only [updV, if_neg hj]
          rw [jup_j (by omega)]
      rcases hkd with ⟨hk, -⟩ | ⟨hk, -⟩
      · subst hk; rw [← hcA] at hE; exact hE
      · subst hk; rw [← hcA] at hE; exact hE
    exact k w pr l e R s mm args below meth c H' _ cells slots c0 s0 Z la C' (jH_put hH ha e2 e3 hmem (fun q hq => jup_ne hq) (jup_ok hH ha (by rcases hkd with ⟨hk, -⟩ | ⟨hk, -⟩ <;> subst hk <;> exact j_ok2 _))) hS' hL h1 (jok_t (jok_t (jok_t h2))) hc hs hfc hfs hret
  obtain ⟨r', hr', cellV, g1, g2, g3, -⟩ := hH.2.1 v.toNat _ (jws_p hv)
  rcases hkd with ⟨hk, hci⟩ | ⟨hk, hci⟩
  · subst hk; subst hci
    have hcls := (hK.1 8 (RX8, TX8, 19) rfl).2
    obtain ⟨kA, comp, k1, k2, k3, -⟩ := (hK.2 3 (w.2.2.1 3, .object RX8) rfl).2
    have hcomp : comp = w.2.2.2.1.1 8 := Option.some.inj (k3.symm.trans hcls.1)
    subst hcomp
    obtain ⟨kC, hkC, -⟩ := hcls.2
    exact W.aast C'.1 C'.2.1 (hH.2.1 p.toNat _ (jws_p ha)) (fun q h => by cases h) (fun h => by cases h) k1 k2 rfl hkC ⟨fun q => hin (Or.inl q), by show _ < (arrV _ _ _).slots.size; rw [arrV_size]; exact Nat.not_le.mp fun q => hin (Or.inr q)⟩ g1 (fun q h => by rw [g3] at h; cases h) (by rw [g2]; exact hkC) (by rw [g2]; exact va_assign hcls) rfl rfl hd fun H' e1 e2 e3 => fin H' _ RX8 rfl e1 e2 e3 _ rfl (hS.put e2 e3 (Nat.le_add_right _ _))
  · subst hk; subst hci
    have hcls := (hK.1 3 (RX3, TX3, 18) rfl).2
    obtain ⟨kA, comp, k1, k2, k3, -⟩ := (hK.2 4 (w.2.2.1 4, .object RX3) rfl).2
    have hcomp : comp = w.2.2.2.1.1 3 := Option.some.inj (k3.symm.trans hcls.1)
    subst hcomp
    obtain ⟨kC, hkC, -⟩ := hcls.2
    exact W.aast C'.1 C'.2.1 (hH.2.1 p.toNat _ (jws_p ha)) (fun q h => by cases h) (fun h => by cases h) k1 k2 rfl hkC ⟨fun q => hin (Or.inl q), by show _ < (arrV _ _ _).slots.size; rw [arrV_size]; exact Nat.not_le.mp fun q => hin (Or.inr q)⟩ g1 (fun q h => by rw [g3] at h; cases h) (by rw [g2]; exact hkC) (by rw [g2]; exact va_assign hcls) rfl rfl hd fun H' e1 e2 e3 => fin H' _ RX3 rfl e1 e2 e3 _ rfl (hS.put e2 e3 (Nat.le_add_right _ _))
/-- Object.<init> -/
def jOI (own : String) (idx : Nat) : Prop := Cond.methodLink own idx Lib.objectInit ∈ jTbl ∧ Cond.instanceMethod Lib.objectInit ∈ jTbl ∧ Cond.code Lib.objectInit ⟨#[0xb1]⟩ 1 none ∈ jTbl
theorem G_obj {idx : Nat} {x : Int} (hd : decode (jyc y) pc = .ok (.invokespecial idx, 3)) (hl : jOI (jyn y).cls idx) (hx : 0 ≤ x) (hcat : jcats st ≤ 8) (k : G y fs sh m (pc + 3) ls st Q) : G y fs sh m pc ls ((2, x) :: st) Q := by
  intro w p l e R s mm args below meth c H locs cells slots c0 s0 Z la C hH hS hL h1 h2 hc hs hfc hfs hret
  have r1 : jyh y + 1 ≤ R.frames := C.2.2.2.2.2.2.2.1
  have r2 : 45 * jyh y + 40 ≤ R.locals := C.2.2.2.2.2.2.2.2.1
  have hts := C.2.2.2.2.1
  have hcc := jcats_ok (w := w) st
  rw [List.map_cons, jcv_p hx]
  refine W.objInit C.1 C.2.1 C.2.2.2.1 (hts _ hl.1) (hts _ hl.2.1) (hts _ hl.2.2) (g := F0 mm pc la (.ref (w.1 + x.toNat) :: st.map (jcv w))) rfl (by rw [C.2.2.1]; exact hL.2.1) rfl hd (by omega) ?_ (k w p l e R s mm args below meth c H locs cells slots c0 s0 Z la C hH hS hL h1 (jok_t h2) hc hs hfc hfs hret)
  show 2 * 0 + _ + 12 ≤ R.locals
  omega
end
