/-! rows of the logic: locals, stack, numbers, branches, returns (written by a program) -/
theorem G_iadd {y : jY} {fs sh : jS} {m : jM} {pc : Nat} {ls st : List jV} {Q : Int → jM → Prop} {a b : Int} (hd : decode (jyc y) pc = .ok (.iadd, 1)) (k : G y fs sh m (pc + 1) ls ((0, jw (a + b)) :: st) Q) : G y fs sh m pc ls ((0, b) :: (0, a) :: st) Q := by
  intro w p l e R s mm args below meth c H locs cells slots c0 s0 Z la C hH hS hL h1 h2 hc hs hfc hfs hret
  refine lv_iadd C.1 C.2.1 hd ?_
  rw [j_add]
  exact k w p l e R s mm args below meth c H locs cells slots c0 s0 Z la C hH hS hL h1 (jok_c (j_okw _) (jok_t (jok_t h2))) hc hs hfc hfs hret
theorem G_isub {y : jY} {fs sh : jS} {m : jM} {pc : Nat} {ls st : List jV} {Q : Int → jM → Prop} {a b : Int} (hd : decode (jyc y) pc = .ok (.isub, 1)) (k : G y fs sh m (pc + 1) ls ((0, jw (a - b)) :: st) Q) : G y fs sh m pc ls ((0, b) :: (0, a) :: st) Q := by
  intro w p l e R s mm args below meth c H locs cells slots c0 s0 Z la C hH hS hL h1 h2 hc hs hfc hfs hret
  refine lv_isub C.1 C.2.1 hd ?_
  rw [j_sub]
  exact k w p l e R s mm args below meth c H locs cells slots c0 s0 Z la C hH hS hL h1 (jok_c (j_okw _) (jok_t (jok_t h2))) hc hs hfc hfs hret
theorem G_imul {y : jY} {fs sh : jS} {m : jM} {pc : Nat} {ls st : List jV} {Q : Int → jM → Prop} {a b : Int} (hd : decode (jyc y) pc = .ok (.imul, 1)) (k : G y fs sh m (pc + 1) ls ((0, jw (a * b)) :: st) Q) : G y fs sh m pc ls ((0, b) :: (0, a) :: st) Q := by
  intro w p l e R s mm args below meth c H locs cells slots c0 s0 Z la C hH hS hL h1 h2 hc hs hfc hfs hret
  refine lv_imul C.1 C.2.1 hd ?_
  rw [j_mul]
  exact k w p l e R s mm args below meth c H locs cells slots c0 s0 Z la C hH hS hL h1 (jok_c (j_okw _) (jok_t (jok_t h2))) hc hs hfc hfs hret
theorem G_iand {y : jY} {fs sh : jS} {m : jM} {pc : Nat} {ls st : List jV} {Q : Int → jM → Prop} {a b : Int} (hd : decode (jyc y) pc = .ok (.iand, 1)) (k : G y fs sh m (pc + 1) ls ((0, jand a b) :: st) Q) : G y fs sh m pc ls ((0, b) :: (0, a) :: st) Q := by
  intro w p l e R s mm args below meth c H locs cells slots c0 s0 Z la C hH hS hL h1 h2 hc hs hfc hfs hret
  refine lv_iand C.1 C.2.1 hd ?_
  rw [← j_back (Int32.ofInt a &&& Int32.ofInt b)]
  exact k w p l e R s mm args below meth c H locs cells slots c0 s0 Z la C hH hS hL h1 (jok_c (j_ok32 _) (jok_t (jok_t h2))) hc hs hfc hfs hret
theorem G_ior {y : jY} {fs sh : jS} {m : jM} {pc : Nat} {ls st : List jV} {Q : Int → jM → Prop} {a b : Int} (hd : decode (jyc y) pc = .ok (.ior, 1)) (k : G y fs sh m (pc + 1) ls ((0, jor a b) :: st) Q) : G y fs sh m pc ls ((0, b) :: (0, a) :: st) Q := by
  intro w p l e R s mm args below meth c H locs cells slots c0 s0 Z la C hH hS hL h1 h2 hc hs hfc hfs hret
  refine lv_ior C.1 C.2.1 hd ?_
  rw [← j_back (Int32.ofInt a ||| Int32.ofInt b)]
  exact k w p l e R s mm args below meth c H locs cells slots c0 s0 Z la C hH hS hL h1 (jok_c (j_ok32 _) (jok_t (jok_t h2))) hc hs hfc hfs hret
theorem G_ixor {y : jY} {fs sh : jS} {m : jM} {pc : Nat} {ls st : List jV} {Q : Int → jM → Prop} {a b : Int} (hd : decode (jyc y) pc = .ok (.ixor, 1)) (k : G y fs sh m (pc + 1) ls ((0, jxor a b) :: st) Q) : G y fs sh m pc ls ((0, b) :: (0, a) :: st) Q := by
  intro w p l e R s mm args below meth c H locs cells slots c0 s0 Z la C hH hS hL h1 h2 hc hs hfc hfs hret
  refine lv_ixor C.1 C.2.1 hd ?_
  rw [← j_back (Int32.ofInt a ^^^ Int32.ofInt b)]
  exact k w p l e R s mm args below meth c H locs cells slots c0 s0 Z la C hH hS hL h1 (jok_c (j_ok32 _) (jok_t (jok_t h2))) hc hs hfc hfs hret
theorem G_ishl {y : jY} {fs sh : jS} {m : jM} {pc : Nat} {ls st : List jV} {Q : Int → jM → Prop} {a b : Int} (hd : decode (jyc y) pc = .ok (.ishl, 1)) (k : G y fs sh m (pc + 1) ls ((0, jshl a b) :: st) Q) : G y fs sh m pc ls ((0, b) :: (0, a) :: st) Q := by
  intro w p l e R s mm args below meth c H locs cells slots c0 s0 Z la C hH hS hL h1 h2 hc hs hfc hfs hret
  refine lv_ishl C.1 C.2.1 hd ?_
  rw [← j_back (Int32.ofInt a <<< (Int32.ofInt b &&& 31))]
  exact k w p l e R s mm args below meth c H locs cells slots c0 s0 Z la C hH hS hL h1 (jok_c (j_ok32 _) (jok_t (jok_t h2))) hc hs hfc hfs hret
theorem G_ishr {y : jY} {fs sh : jS} {m : jM} {pc : Nat} {ls st : List jV} {Q : Int → jM → Prop} {a b : Int} (hd : decode (jyc y) pc = .ok (.ishr, 1)) (k : G y fs sh m (pc + 1) ls ((0, jshr a b) :: st) Q) : G y fs sh m pc ls ((0, b) :: (0, a) :: st) Q := by
  intro w p l e R s mm args below meth c H locs cells slots c0 s0 Z la C hH hS hL h1 h2 hc hs hfc hfs hret
  refine lv_ishr C.1 C.2.1 hd ?_
  rw [← j_back (Int32.ofInt a >>> (Int32.ofInt b &&& 31))]
  exact k w p l e R s mm args below meth c H locs cells slots c0 s0 Z la C hH hS hL h1 (jok_c (j_ok32 _) (jok_t (jok_t h2))) hc hs hfc hfs hret
theorem G_idiv {y : jY} {fs sh : jS} {m : jM} {pc : Nat} {ls st : List jV} {Q : Int → jM → Prop} {a b : Int} (hd : decode (jyc y) pc = .ok (.idiv, 1)) (hb : b ≠ 0) (k : G y fs sh m (pc + 1) ls ((0, jdiv a b) :: st) Q) : G y fs sh m pc ls ((0, b) :: (0, a) :: st) Q := by
  intro w p l e R s mm args below meth c H locs cells slots c0 s0 Z la C hH hS hL h1 h2 hc hs hfc hfs hret
  refine lv_idiv C.1 C.2.1 hd (fun q => hb ((j_eq (jok_h h2) (j_ok0 (by omega) (by omega))).mp q)) ?_
  rw [← j_back (Int32.ofInt a / Int32.ofInt b)]
  exact k w p l e R s mm args below meth c H locs cells slots c0 s0 Z la C hH hS hL h1 (jok_c (j_ok32 _) (jok_t (jok_t h2))) hc hs hfc hfs hret
theorem G_irem {y : jY} {fs sh : jS} {m : jM} {pc : Nat} {ls st : List jV} {Q : Int → jM → Prop} {a b : Int} (hd : decode (jyc y) pc = .ok (.irem, 1)) (hb : b ≠ 0) (k : G y fs sh m (pc + 1) ls ((0, jrem a b) :: st) Q) : G y fs sh m pc ls ((0, b) :: (0, a) :: st) Q := by
  intro w p l e R s mm args below meth c H locs cells slots c0 s0 Z la C hH hS hL h1 h2 hc hs hfc hfs hret
  refine lv_irem C.1 C.2.1 hd (fun q => hb ((j_eq (jok_h h2) (j_ok0 (by omega) (by omega))).mp q)) ?_
  rw [← j_back (Int32.ofInt a - Int32.ofInt a / Int32.ofInt b * Int32.ofInt b)]
  exact k w p l e R s mm args below meth c H locs cells slots c0 s0 Z la C hH hS hL h1 (jok_c (j_ok32 _) (jok_t (jok_t h2))) hc hs hfc hfs hret
theorem G_ineg {y : jY} {fs sh : jS} {m : jM} {pc : Nat} {ls st : List jV} {Q : Int → jM → Prop} {a : Int} (hd : decode (jyc y) pc = .ok (.ineg, 1)) (k : G y fs sh m (pc + 1) ls ((0, jw (-a)) :: st) Q) : G y fs sh m pc ls ((0, a) :: st) Q := by
  intro w p l e R s mm args below meth c H locs cells slots c0 s0 Z la C hH hS hL h1 h2 hc hs hfc hfs hret
  refine lv_ineg C.1 C.2.1 hd ?_
  rw [j_neg]
  exact k w p l e R s mm args below meth c H locs cells slots c0 s0 Z la C hH hS hL h1 (jok_c (j_okw _) (jok_t h2)) hc hs hfc hfs hret
theorem G_ladd {y : jY} {fs sh : jS} {m : jM} {pc : Nat} {ls st : List jV} {Q : Int → jM → Prop} {a b : Int} (hd : decode (jyc y) pc = .ok (.ladd, 1)) (k : G y fs sh m (pc + 1) ls ((1, jw64 (a + b)) :: st) Q) : G y fs sh m pc ls ((1, b) :: (1, a) :: st) Q := by
  intro w p l e R s mm args below meth c H locs cells slots c0 s0 Z la C hH hS hL h1 h2 hc hs hfc hfs hret
  refine lv_ladd C.1 C.2.1 hd ?_
  rw [j_add64]
  exact k w p l e R s mm args below meth c H locs cells slots c0 s0 Z la C hH hS hL h1 (jok_c (j_okw64 _) (jok_t (jok_t h2))) hc hs hfc hfs hret
theorem G_lsub {y : jY} {fs sh : jS} {m : jM} {pc : Nat} {ls st : List jV} {Q : Int → jM → Prop} {a b : Int} (hd : decode (jyc y) pc = .ok (.lsub, 1)) (k : G y fs sh m (pc + 1) ls ((1, jw64 (a - b)) :: st) Q) : G y fs sh m pc ls ((1, b) :: (1, a) :: st) Q := by
  intro w p l e R s mm args below meth c H locs cells slots c0 s0 Z la C hH hS hL h1 h2 hc hs hfc hfs hret
  refine lv_lsub C.1 C.2.1 hd ?_
  rw [j_sub64]
  exact k w p l e R s mm args below meth c H locs cells slots c0 s0 Z la C hH hS hL h1 (jok_c (j_okw64 _) (jok_t (jok_t h2))) hc hs hfc hfs hret
theorem G_lmul {y : jY} {fs sh : jS} {m : jM} {pc : Nat} {ls st : List jV} {Q : Int → jM → Prop} {a b : Int} (hd : decode (jyc y) pc = .ok (.lmul, 1)) (k : G y fs sh m (pc + 1) ls ((1, jw64 (a * b)) :: st) Q) : G y fs sh m pc ls ((1, b) :: (1, a) :: st) Q := by
  intro w p l e R s mm args below meth c H locs cells slots c0 s0 Z la C hH hS hL h1 h2 hc hs hfc hfs hret
  refine lv_lmul C.1 C.2.1 hd ?_
  rw [j_mul64]
  exact k w p l e R s mm args below meth c H locs cells slots c0 s0 Z la C hH hS hL h1 (jok_c (j_okw64 _) (jok_t (jok_t h2))) hc hs hfc hfs hret
theorem G_iconst {y : jY} {fs sh : jS} {m : jM} {pc : Nat} {ls st : List jV} {Q : Int → jM → Prop} {n : Int} (hd : decode (jyc y) pc = .ok (.iconst n, 1)) (h0 : -2147483648 ≤ n ∧ n ≤ 2147483647) (k : G y fs sh m (pc + 1) ls ((0, n) :: st) Q) : G y fs sh m pc ls st Q := by
  intro w p l e R s mm args below meth c H locs cells slots c0 s0 Z la C hH hS hL h1 h2 hc hs hfc hfs hret
  refine lv_iconst C.1 C.2.1 hd rfl ?_
  exact k w p l e R s mm args below meth c H locs cells slots c0 s0 Z la C hH hS hL h1 (jok_c (j_ok0 h0.1 h0.2) h2) hc hs hfc hfs hret
theorem G_bipush {y : jY} {fs sh : jS} {m : jM} {pc : Nat} {ls st : List jV} {Q : Int → jM → Prop} {n : Int} (hd : decode (jyc y) pc = .ok (.bipush n, 2)) (hv : (Int8.ofInt n).toInt32 = Int32.ofInt n) (h0 : -2147483648 ≤ n ∧ n ≤ 2147483647) (k : G y fs sh m (pc + 2) ls ((0, n) :: st) Q) : G y fs sh m pc ls st Q := by
  intro w p l e R s mm args below meth c H locs cells slots c0 s0 Z la C hH hS hL h1 h2 hc hs hfc hfs hret
  refine lv_bipush C.1 C.2.1 hd hv ?_
  exact k w p l e R s mm args below meth c H locs cells slots c0 s0 Z la C hH hS hL h1 (jok_c (j_ok0 h0.1 h0.2) h2) hc hs hfc hfs hret
theorem G_sipush {y : jY} {fs sh : jS} {m : jM} {pc : Nat} {ls st : List jV} {Q : Int → jM → Prop} {n : Int} (hd : decode (jyc y) pc = .ok (.sipush n, 3)) (hv : (Int16.ofInt n).toInt32 = Int32.ofInt n) (h0 : -2147483648 ≤ n ∧ n ≤ 2147483647) (k : G y fs sh m (pc + 3) ls ((0, n) :: st) Q) : G y fs sh m pc ls st Q := by
  intro w p l e R s mm args below meth c H locs cells slots c0 s0 Z la C hH hS hL h1 h2 hc hs hfc hfs hret
  refine lv_sipush C.1 C.2.1 hd hv ?_
  exact k w p l e R s mm args below meth c H locs cells slots c0 s0 Z la C hH hS hL h1 (jok_c (j_ok0 h0.1 h0.2) h2) hc hs hfc hfs hret
theorem G_lconst {y : jY} {fs sh : jS} {m : jM} {pc : Nat} {ls st : List jV} {Q : Int → jM → Prop} {n : Fin 2} (hd : decode (jyc y) pc = .ok (.lconst n, 1)) (k : G y fs sh m (pc + 1) ls ((1, ((n : Nat) : Int)) :: st) Q) : G y fs sh m pc ls st Q := by
  intro w p l e R s mm args below meth c H locs cells slots c0 s0 Z la C hH hS hL h1 h2 hc hs hfc hfs hret
  refine lv_lconst C.1 C.2.1 hd (v := Int64.ofInt ((n : Nat) : Int)) ((by decide : ∀ n : Fin 2, Int64.ofNat (n : Nat) = Int64.ofInt ((n : Nat) : Int)) n) ?_
  exact k w p l e R s mm args below meth c H locs cells slots c0 s0 Z la C hH hS hL h1 (jok_c ⟨fun h => (by cases h), fun _ => by have := n.isLt; constructor <;> simp only [] <;> omega⟩ h2) hc hs hfc hfs hret
theorem G_ldc {y : jY} {fs sh : jS} {m : jM} {pc : Nat} {ls st : List jV} {Q : Int → jM → Prop} {idx : Nat} {n : Int} (hd : decode (jyc y) pc = .ok (.ldc idx, 2)) (hl : Cond.constant (jyn y).cls idx (Int32.ofInt n) ∈ jTbl) (h0 : -2147483648 ≤ n ∧ n ≤ 2147483647) (k : G y fs sh m (pc + 2) ls ((0, n) :: st) Q) : G y fs sh m pc ls st Q := by
  intro w p l e R s mm args below meth c H locs cells slots c0 s0 Z la C hH hS hL h1 h2 hc hs hfc hfs hret
  refine lv_ldc C.1 C.2.1 C.2.2.2.1 (C.2.2.2.2.1 _ hl) hd ?_
  exact k w p l e R s mm args below meth c H locs cells slots c0 s0 Z la C hH hS hL h1 (jok_c (j_ok0 h0.1 h0.2) h2) hc hs hfc hfs hret
theorem G_ldc2 {y : jY} {fs sh : jS} {m : jM} {pc : Nat} {ls st : List jV} {Q : Int → jM → Prop} {idx : Nat} {n : Int} (hd : decode (jyc y) pc = .ok (.ldc2_w idx, 3)) (hl : Cond.constantLong (jyn y).cls idx (Int64.ofInt n) ∈ jTbl) (h0 : -9223372036854775808 ≤ n ∧ n ≤ 9223372036854775807) (k : G y fs sh m (pc + 3) ls ((1, n) :: st) Q) : G y fs sh m pc ls st Q := by
  intro w p l e R s mm args below meth c H locs cells slots c0 s0 Z la C hH hS hL h1 h2 hc hs hfc hfs hret
  refine lv_ldc2 C.1 C.2.1 C.2.2.2.1 (C.2.2.2.2.1 _ hl) hd ?_
  exact k w p l e R s mm args below meth c H locs cells slots c0 s0 Z la C hH hS hL h1 (jok_c ⟨fun h => (by cases h), fun _ => h0⟩ h2) hc hs hfc hfs hret
theorem G_iloadn {y : jY} {fs sh : jS} {m : jM} {pc : Nat} {ls st : List jV} {Q : Int → jM → Prop} {i : Fin 4} {x : Int} (hd : decode (jyc y) pc = .ok (.iload_n i, 1)) (hi : ls[(i : Nat)]? = some (0, x)) (k : G y fs sh m (pc + 1) ls ((0, x) :: st) Q) : G y fs sh m pc ls st Q := by
  intro w p l e R s mm args below meth c H locs cells slots c0 s0 Z la C hH hS hL h1 h2 hc hs hfc hfs hret
  refine lv_iload_n C.1 C.2.1 hd rfl (jL_at hL hi (by decide)) ?_
  exact k w p l e R s mm args below meth c H locs cells slots c0 s0 Z la C hH hS hL h1 (jok_c (jok_at h1 hi) h2) hc hs hfc hfs hret
theorem G_iload {y : jY} {fs sh : jS} {m : jM} {pc : Nat} {ls st : List jV} {Q : Int → jM → Prop} {i : Nat} {x : Int} (hd : decode (jyc y) pc = .ok (.iload i, 2)) (hi : ls[i]? = some (0, x)) (k : G y fs sh m (pc + 2) ls ((0, x) :: st) Q) : G y fs sh m pc ls st Q := by
  intro w p l e R s mm args below meth c H locs cells slots c0 s0 Z la C hH hS hL h1 h2 hc hs hfc hfs hret
  refine lv_iload C.1 C.2.1 hd (jL_at hL hi (by decide)) ?_
  exact k w p l e R s mm args below meth c H locs cells slots c0 s0 Z la C hH hS hL h1 (jok_c (jok_at h1 hi) h2) hc hs hfc hfs hret
theorem G_lloadn {y : jY} {fs sh : jS} {m : jM} {pc : Nat} {ls st : List jV} {Q : Int → jM → Prop} {i : Fin 4} {x : Int} (hd : decode (jyc y) pc = .ok (.lload_n i, 1)) (hi : ls[(i : Nat)]? = some (1, x)) (k : G y fs sh m (pc + 1) ls ((1, x) :: st) Q) : G y fs sh m pc ls st Q := by
  intro w p l e R s mm args below meth c H locs cells slots c0 s0 Z la C hH hS hL h1 h2 hc hs hfc hfs hret
  refine lv_lload_n C.1 C.2.1 hd rfl (jL_at hL hi (by decide)) ?_
  exact k w p l e R s mm args below meth c H locs cells slots c0 s0 Z la C hH hS hL h1 (jok_c (jok_at h1 hi) h2) hc hs hfc hfs hret
theorem G_lload {y : jY} {fs sh : jS} {m : jM} {pc : Nat} {ls st : List jV} {Q : Int → jM → Prop} {i : Nat} {x : Int} (hd : decode (jyc y) pc = .ok (.lload i, 2)) (hi : ls[i]? = some (1, x)) (k : G y fs sh m (pc + 2) ls ((1, x) :: st) Q) : G y fs sh m pc ls st Q := by
  intro w p l e R s mm args below meth c H locs cells slots c0 s0 Z la C hH hS hL h1 h2 hc hs hfc hfs hret
  refine lv_lload C.1 C.2.1 hd (jL_at hL hi (by decide)) ?_
  exact k w p l e R s mm args below meth c H locs cells slots c0 s0 Z la C hH hS hL h1 (jok_c (jok_at h1 hi) h2) hc hs hfc hfs hret
theorem G_aloadn {y : jY} {fs sh : jS} {m : jM} {pc : Nat} {ls st : List jV} {Q : Int → jM → Prop} {i : Fin 4} {x : Int} (hd : decode (jyc y) pc = .ok (.aload_n i, 1)) (hi : ls[(i : Nat)]? = some (2, x)) (k : G y fs sh m (pc + 1) ls ((2, x) :: st) Q) : G y fs sh m pc ls st Q := by
  intro w p l e R s mm args below meth c H locs cells slots c0 s0 Z la C hH hS hL h1 h2 hc hs hfc hfs hret
  have hk : W p l e R s mm args below meth c H locs cells slots Z (F0 mm (pc + 1) la (jcv w (2, x) :: st.map (jcv w))) := k w p l e R s mm args below meth c H locs cells slots c0 s0 Z la C hH hS hL h1 (jok_c (j_ok2 _) h2) hc hs hfc hfs hret
  have hv := jL_at hL hi (by decide)
  by_cases hx : x = -1
  · have e : jcv w (2, x) = .null := by simp [jcv, hx]
    rw [e] at hk hv
    exact lv_aload_nN C.1 C.2.1 hd rfl hv hk
  · have e : jcv w (2, x) = .ref (jad w x) := by simp [jcv, hx]
    rw [e] at hk hv
    exact lv_aload_n C.1 C.2.1 hd rfl hv hk
theorem G_aload {y : jY} {fs sh : jS} {m : jM} {pc : Nat} {ls st : List jV} {Q : Int → jM → Prop} {i : Nat} {x : Int} (hd : decode (jyc y) pc = .ok (.aload i, 2)) (hi : ls[i]? = some (2, x)) (k : G y fs sh m (pc + 2) ls ((2, x) :: st) Q) : G y fs sh m pc ls st Q := by
  intro w p l e R s mm args below meth c H locs cells slots c0 s0 Z la C hH hS hL h1 h2 hc hs hfc hfs hret
  have hk : W p l e R s mm args below meth c H locs cells slots Z (F0 mm (pc + 2) la (jcv w (2, x) :: st.map (jcv w))) := k w p l e R s mm args below meth c H locs cells slots c0 s0 Z la C hH hS hL h1 (jok_c (j_ok2 _) h2) hc hs hfc hfs hret
  have hv := jL_at hL hi (by decide)
  by_cases hx : x = -1
  · have e : jcv w (2, x) = .null := by simp [jcv, hx]
    rw [e] at hk hv
    exact lv_aloadN C.1 C.2.1 hd hv hk
  · have e : jcv w (2, x) = .ref (jad w x) := by simp [jcv, hx]
    rw [e] at hk hv
    exact lv_aload C.1 C.2.1 hd hv hk
theorem G_istoren {y : jY} {fs sh : jS} {m : jM} {pc : Nat} {ls st : List jV} {Q : Int → jM → Prop} {i : Fin 4} {x : Int} (hd : decode (jyc y) pc = .ok (.istore_n i, 1)) (hi : (i : Nat) < ls.length) (hn : jnl ls (i : Nat) = true) (k : G y fs sh m (pc + 1) (ls.set (i : Nat) (0, x)) st Q) : G y fs sh m pc ls ((0, x) :: st) Q := by
  intro w p l e R s mm args below meth c H locs cells slots c0 s0 Z la C hH hS hL h1 h2 hc hs hfc hfs hret
  refine lv_istore_n C.1 C.2.1 hd rfl hL.2 (by rw [← hL.1]; exact hi) rfl (fun la hl => ?_)
  exact k w p l e R s mm args below meth c H locs cells slots c0 s0 Z la C hH hS (jL_set1 (v := (0, x)) hL.1 hn hl) (jok_set h1 (jok_h h2)) (jok_t h2) hc hs hfc hfs hret
theorem G_istore {y : jY} {fs sh : jS} {m : jM} {pc : Nat} {ls st : List jV} {Q : Int → jM → Prop} {i : Nat} {x : Int} (hd : decode (jyc y) pc = .ok (.istore i, 2)) (hi : i < ls.length) (hn : jnl ls i = true) (k : G y fs sh m (pc + 2) (ls.set i (0, x)) st Q) : G y fs sh m pc ls ((0, x) :: st) Q := by
  intro w p l e R s mm args below meth c H locs cells slots c0 s0 Z la C hH hS hL h1 h2 hc hs hfc hfs hret
  refine lv_istore C.1 C.2.1 hd hL.2 (by rw [← hL.1]; exact hi) rfl (fun la hl => ?_)
  exact k w p l e R s mm args below meth c H locs cells slots c0 s0 Z la C hH hS (jL_set1 (v := (0, x)) hL.1 hn hl) (jok_set h1 (jok_h h2)) (jok_t h2) hc hs hfc hfs hret
theorem G_astoren {y : jY} {fs sh : jS} {m : jM} {pc : Nat} {ls st : List jV} {Q : Int → jM → Prop} {i : Fin 4} {x : Int} (hd : decode (jyc y) pc = .ok (.astore_n i, 1)) (hi : (i : Nat) < ls.length) (hn : jnl ls (i : Nat) = true) (k : G y fs sh m (pc + 1) (ls.set (i : Nat) (2, x)) st Q) : G y fs sh m pc ls ((2, x) :: st) Q := by
  intro w p l e R s mm args below meth c H locs cells slots c0 s0 Z la C hH hS hL h1 h2 hc hs hfc hfs hret
  have hk : ∀ la, lv_has la (jyl y) (((i : Nat), jcv w (2, x)) :: (jlv w ls).filter (fun q => !(q.1 == (i : Nat)) && !(q.1 + 1 == (i : Nat) && q.2.category == 2))) → W p l e R s mm args below meth c H locs cells slots Z (F0 mm (pc + 1) la (st.map (jcv w))) := fun la hl => k w p l e R s mm args below meth c H locs cells slots c0 s0 Z la C hH hS (jL_set1 (v := (2, x)) hL.1 hn hl) (jok_set h1 (jok_h h2)) (jok_t h2) hc hs hfc hfs hret
  show W p l e R s mm args below meth c H locs cells slots Z (F0 mm pc la (jcv w (2, x) :: st.map (jcv w)))
  by_cases hx : x = -1
  · have e : jcv w (2, x) = .null := by simp [jcv, hx]
    rw [e] at hk ⊢
    exact lv_astore_nN C.1 C.2.1 hd rfl hL.2 (by rw [← hL.1]; exact hi) rfl hk
  · have e : jcv w (2, x) = .ref (jad w x) := by simp [jcv, hx]
    rw [e] at hk ⊢
    exact lv_astore_n C.1 C.2.1 hd rfl hL.2 (by rw [← hL.1]; exact hi) rfl hk
theorem G_astore {y : jY} {fs sh : jS} {m : jM} {pc : Nat} {ls st : List jV} {Q : Int → jM → Prop} {i : Nat} {x : Int} (hd : decode (jyc y) pc = .ok (.astore i, 2)) (hi : i < ls.length) (hn : jnl ls i = true) (k : G y fs sh m (pc + 2) (ls.set i (2, x)) st Q) : G y fs sh m pc ls ((2, x) :: st) Q := by
  intro w p l e R s mm args below meth c H locs cells slots c0 s0 Z la C hH hS hL h1 h2 hc hs hfc hfs hret
  have hk : ∀ la, lv_has la (jyl y) ((i, jcv w (2, x)) :: (jlv w ls).filter (fun q => !(q.1 == i) && !(q.1 + 1 == i && q.2.category == 2))) → W p l e R s mm args below meth c H locs cells slots Z (F0 mm (pc + 2) la (st.map (jcv w))) := fun la hl => k w p l e R s mm args below meth c H locs cells slots c0 s0 Z la C hH hS (jL_set1 (v := (2, x)) hL.1 hn hl) (jok_set h1 (jok_h h2)) (jok_t h2) hc hs hfc hfs hret
  show W p l e R s mm args below meth c H locs cells slots Z (F0 mm pc la (jcv w (2, x) :: st.map (jcv w)))
  by_cases hx : x = -1
  · have e : jcv w (2, x) = .null := by simp [jcv, hx]
    rw [e] at hk ⊢
    exact lv_astoreN C.1 C.2.1 hd hL.2 (by rw [← hL.1]; exact hi) rfl hk
  · have e : jcv w (2, x) = .ref (jad w x) := by simp [jcv, hx]
    rw [e] at hk ⊢
    exact lv_astore C.1 C.2.1 hd hL.2 (by rw [← hL.1]; exact hi) rfl hk
theorem G_lstoren {y : jY} {fs sh : jS} {m : jM} {pc : Nat} {ls st : List jV} {Q : Int → jM → Prop} {i : Fin 4} {x : Int} (hd : decode (jyc y) pc = .ok (.lstore_n i, 1)) (hi : (i : Nat) + 1 < ls.length) (hn : jnl ls (i : Nat) = true) (k : G y fs sh m (pc + 1) ((ls.set (i : Nat) (1, x)).set ((i : Nat) + 1) (9, 0)) st Q) : G y fs sh m pc ls ((1, x) :: st) Q := by
  intro w p l e R s mm args below meth c H locs cells slots c0 s0 Z la C hH hS hL h1 h2 hc hs hfc hfs hret
  refine lv_lstore_n C.1 C.2.1 hd rfl hL.2 (by rw [← hL.1]; exact hi) rfl (fun la hl => ?_)
  exact k w p l e R s mm args below meth c H locs cells slots c0 s0 Z la C hH hS (jL_set2 (v := (1, x)) hL.1 hn hl) (jok_set (jok_set h1 (jok_h h2)) (j_ok9 _)) (jok_t h2) hc hs hfc hfs hret
theorem G_iinc {y : jY} {fs sh : jS} {m : jM} {pc : Nat} {ls st : List jV} {Q : Int → jM → Prop} {i : Nat} {n x : Int} (hd : decode (jyc y) pc = .ok (.iinc i n, 3)) (hi : ls[i]? = some (0, x)) (hn : jnl ls i = true) (k : G y fs sh m (pc + 3) (ls.set i (0, jw (x + n))) st Q) : G y fs sh m pc ls st Q := by
  intro w p l e R s mm args below meth c H locs cells slots c0 s0 Z la C hH hS hL h1 h2 hc hs hfc hfs hret
  have hm : (i, jcv w (0, x)) ∈ jlv w ls := jlv_mem.mpr ⟨_, hi, (by simp), rfl⟩
  obtain ⟨k0, hk0⟩ := List.getElem?_of_mem hm
  refine lv_iinc (x := Int32.ofInt x) (v := Int32.ofInt (jw (x + n))) C.1 C.2.1 hd hL.2 hk0 (by rw [j_add]) (by rw [← hL.1]; exact (List.getElem?_eq_some_iff.mp hi).1) rfl (fun la hl => ?_)
  exact k w p l e R s mm args below meth c H locs cells slots c0 s0 Z la C hH hS (jL_set1 (v := (0, jw (x + n))) hL.1 hn hl) (jok_set h1 (j_okw _)) h2 hc hs hfc hfs hret
theorem G_dup {y : jY} {fs sh : jS} {m : jM} {pc : Nat} {ls st : List jV} {Q : Int → jM → Prop} {t : Nat} {x : Int} (hd : decode (jyc y) pc = .ok (.dup, 1)) (ht : t ≠ 1) (k : G y fs sh m (pc + 1) ls ((t, x) :: (t, x) :: st) Q) : G y fs sh m pc ls ((t, x) :: st) Q := by
  intro w p l e R s mm args below meth c H locs cells slots c0 s0 Z la C hH hS hL h1 h2 hc hs hfc hfs hret
  refine lv_dup C.1 C.2.1 hd ((lv_cat _).resolve_right (jcat ht)) ?_
  exact k w p l e R s mm args below meth c H locs cells slots c0 s0 Z la C hH hS hL h1 (jok_c (jok_h h2) h2) hc hs hfc hfs hret
theorem G_dup2 {y : jY} {fs sh : jS} {m : jM} {pc : Nat} {ls st : List jV} {Q : Int → jM → Prop} {t u : Nat} {x z : Int} (hd : decode (jyc y) pc = .ok (.dup2, 1)) (ht : t ≠ 1) (hu : u ≠ 1) (k : G y fs sh m (pc + 1) ls ((t, x) :: (u, z) :: (t, x) :: (u, z) :: st) Q) : G y fs sh m pc ls ((t, x) :: (u, z) :: st) Q := by
  intro w p l e R s mm args below meth c H locs cells slots c0 s0 Z la C hH hS hL h1 h2 hc hs hfc hfs hret
  refine lv_dup2_11 C.1 C.2.1 hd ((lv_cat _).resolve_right (jcat ht)) ((lv_cat _).resolve_right (jcat hu)) ?_
  exact k w p l e R s mm args below meth c H locs cells slots c0 s0 Z la C hH hS hL h1 (jok_c (jok_h h2) (jok_c (jok_h (jok_t h2)) h2)) hc hs hfc hfs hret
theorem G_i2l {y : jY} {fs sh : jS} {m : jM} {pc : Nat} {ls st : List jV} {Q : Int → jM → Prop} {x : Int} (hd : decode (jyc y) pc = .ok (.i2l, 1)) (k : G y fs sh m (pc + 1) ls ((1, x) :: st) Q) : G y fs sh m pc ls ((0, x) :: st) Q := by
  intro w p l e R s mm args below meth c H locs cells slots c0 s0 Z la C hH hS hL h1 h2 hc hs hfc hfs hret
  have hx := (jok_h h2).1 rfl
  refine lv_i2l C.1 C.2.1 hd (v := Int64.ofInt x) (by rw [← Int64.ofInt_toInt (Int32.toInt64 _), Int32.toInt_toInt64, j_i (jok_h h2)]) ?_
  exact k w p l e R s mm args below meth c H locs cells slots c0 s0 Z la C hH hS hL h1 (jok_c ⟨fun h => (by cases h), fun _ => by simp only at hx ⊢; omega⟩ (jok_t h2)) hc hs hfc hfs hret
theorem G_l2i {y : jY} {fs sh : jS} {m : jM} {pc : Nat} {ls st : List jV} {Q : Int → jM → Prop} {x : Int} (hd : decode (jyc y) pc = .ok (.l2i, 1)) (k : G y fs sh m (pc + 1) ls ((0, jw x) :: st) Q) : G y fs sh m pc ls ((1, x) :: st) Q := by
  intro w p l e R s mm args below meth c H locs cells slots c0 s0 Z la C hH hS hL h1 h2 hc hs hfc hfs hret
  refine lv_l2i C.1 C.2.1 hd (v := Int32.ofInt (jw x)) (by rw [j_ofw, ← Int32.toInt_inj, Int64.toInt_toInt32, j_l (jok_h h2), Int32.toInt_ofInt]) ?_
  exact k w p l e R s mm args below meth c H locs cells slots c0 s0 Z la C hH hS hL h1 (jok_c (j_okw _) (jok_t h2)) hc hs hfc hfs hret
theorem G_lcmp {y : jY} {fs sh : jS} {m : jM} {pc : Nat} {ls st : List jV} {Q : Int → jM → Prop} {a b : Int} (hd : decode (jyc y) pc = .ok (.lcmp, 1)) (k : G y fs sh m (pc + 1) ls ((0, jcmp a b) :: st) Q) : G y fs sh m pc ls ((1, b) :: (1, a) :: st) Q := by
  intro w p l e R s mm args below meth c H locs cells slots c0 s0 Z la C hH hS hL h1 h2 hc hs hfc hfs hret
  refine W.lcmp C.1 C.2.1 hd ?_
  have he : lg_cmp (Int64.ofInt a) (Int64.ofInt b) = Int32.ofInt (jcmp a b) := by
    unfold lg_cmp jcmp
    have e1 : (Int64.ofInt a < Int64.ofInt b) ↔ a < b := by rw [Int64.lt_iff_toInt_lt, j_l (jok_h (jok_t h2)), j_l (jok_h h2)]
    have e2 : (Int64.ofInt b < Int64.ofInt a) ↔ b < a := by rw [Int64.lt_iff_toInt_lt, j_l (jok_h (jok_t h2)), j_l (jok_h h2)]
    have e3 : (Int64.ofInt a = Int64.ofInt b) ↔ a = b := by
      constructor
      · intro h; have := congrArg Int64.toInt h; rwa [j_l (jok_h (jok_t h2)), j_l (jok_h h2)] at this
      · intro h; rw [h]
    simp only [e1, e2, e3, GT.gt]
    split <;> split <;> first | rfl | (split <;> first | rfl | (exfalso; omega)) | (exfalso; omega)
  rw [he]
  exact k w p l e R s mm args below meth c H locs cells slots c0 s0 Z la C hH hS hL h1 (jok_c (j_ok0 (by unfold jcmp; split <;> (try split) <;> omega) (by unfold jcmp; split <;> (try split) <;> omega)) (jok_t (jok_t h2))) hc hs hfc hfs hret
theorem G_icmp_eq {y : jY} {fs sh : jS} {m : jM} {pc : Nat} {ls st : List jV} {Q : Int → jM → Prop} {a b : Int} {off : Int} (t : Nat) (hd : decode (jyc y) pc = .ok (.if_icmp .eq off, 3)) (ht : (pc : Int) + off = (t : Int)) (kt : (a = b) → G y fs sh m t ls st Q) (kf : ¬ (a = b) → G y fs sh m (pc + 3) ls st Q) : G y fs sh m pc ls ((0, b) :: (0, a) :: st) Q := by
  intro w p l e R s mm args below meth c H locs cells slots c0 s0 Z la C hH hS hL h1 h2 hc hs hfc hfs hret
  refine lv_icmp_eq (tgt := t) C.1 C.2.1 hd ht (fun q => ?_) (fun q => ?_)
  · exact kt ((j_eq (jok_h (jok_t h2)) (jok_h h2)).mp q) w p l e R s mm args below meth c H locs cells slots c0 s0 Z la C hH hS hL h1 (jok_t (jok_t h2)) hc hs hfc hfs hret
  · exact kf (fun z => q ((j_eq (jok_h (jok_t h2)) (jok_h h2)).mpr z)) w p l e R s mm args below meth c H locs cells slots c0 s0 Z la C hH hS hL h1 (jok_t (jok_t h2)) hc hs hfc hfs hret
theorem G_icmp_ne {y : jY} {fs sh : jS} {m : jM} {pc : Nat} {ls st : List jV} {Q : Int → jM → Prop} {a b : Int} {off : Int} (t : Nat) (hd : decode (jyc y) pc = .ok (.if_icmp .ne off, 3)) (ht : (pc : Int) + off = (t : Int)) (kt : (a ≠ b) → G y fs sh m t ls st Q) (kf : ¬ (a ≠ b) → G y fs sh m (pc + 3) ls st Q) : G y fs sh m pc ls ((0, b) :: (0, a) :: st) Q := by
  intro w p l e R s mm args below meth c H locs cells slots c0 s0 Z la C hH hS hL h1 h2 hc hs hfc hfs hret
  refine lv_icmp_ne (tgt := t) C.1 C.2.1 hd ht (fun q => ?_) (fun q => ?_)
  · exact kt ((not_congr (j_eq (jok_h (jok_t h2)) (jok_h h2))).mp q) w p l e R s mm args below meth c H locs cells slots c0 s0 Z la C hH hS hL h1 (jok_t (jok_t h2)) hc hs hfc hfs hret
  · exact kf (fun z => z ((j_eq (jok_h (jok_t h2)) (jok_h h2)).mp q)) w p l e R s mm args below meth c H locs cells slots c0 s0 Z la C hH hS hL h1 (jok_t (jok_t h2)) hc hs hfc hfs hret
theorem G_icmp_lt {y : jY} {fs sh : jS} {m : jM} {pc : Nat} {ls st : List jV} {Q : Int → jM → Prop} {a b : Int} {off : Int} (t : Nat) (hd : decode (jyc y) pc = .ok (.if_icmp .lt off, 3)) (ht : (pc : Int) + off = (t : Int)) (kt : (a < b) → G y fs sh m t ls st Q) (kf : ¬ (a < b) → G y fs sh m (pc + 3) ls st Q) : G y fs sh m pc ls ((0, b) :: (0, a) :: st) Q := by
  intro w p l e R s mm args below meth c H locs cells slots c0 s0 Z la C hH hS hL h1 h2 hc hs hfc hfs hret
  refine lv_icmp_lt (tgt := t) C.1 C.2.1 hd ht (fun q => ?_) (fun q => ?_)
  · exact kt ((j_lt (jok_h (jok_t h2)) (jok_h h2)).mp q) w p l e R s mm args below meth c H locs cells slots c0 s0 Z la C hH hS hL h1 (jok_t (jok_t h2)) hc hs hfc hfs hret
  · exact kf (fun z => q ((j_lt (jok_h (jok_t h2)) (jok_h h2)).mpr z)) w p l e R s mm args below meth c H locs cells slots c0 s0 Z la C hH hS hL h1 (jok_t (jok_t h2)) hc hs hfc hfs hret
theorem G_icmp_ge {y : jY} {fs sh : jS} {m : jM} {pc : Nat} {ls st : List jV} {Q : Int → jM → Prop} {a b : Int} {off : Int} (t : Nat) (hd : decode (jyc y) pc = .ok (.if_icmp .ge off, 3)) (ht : (pc : Int) + off = (t : Int)) (kt : (b ≤ a) → G y fs sh m t ls st Q) (kf : ¬ (b ≤ a) → G y fs sh m (pc + 3) ls st Q) : G y fs sh m pc ls ((0, b) :: (0, a) :: st) Q := by
  intro w p l e R s mm args below meth c H locs cells slots c0 s0 Z la C hH hS hL h1 h2 hc hs hfc hfs hret
  refine lv_icmp_ge (tgt := t) C.1 C.2.1 hd ht (fun q => ?_) (fun q => ?_)
  · exact kt ((j_le (jok_h h2) (jok_h (jok_t h2))).mp q) w p l e R s mm args below meth c H locs cells slots c0 s0 Z la C hH hS hL h1 (jok_t (jok_t h2)) hc hs hfc hfs hret
  · exact kf (fun z => q ((j_le (jok_h h2) (jok_h (jok_t h2))).mpr z)) w p l e R s mm args below meth c H locs cells slots c0 s0 Z la C hH hS hL h1 (jok_t (jok_t h2)) hc hs hfc hfs hret
theorem G_icmp_gt {y : jY} {fs sh : jS} {m : jM} {pc : Nat} {ls st : List jV} {Q : Int → jM → Prop} {a b : Int} {off : Int} (t : Nat) (hd : decode (jyc y) pc = .ok (.if_icmp .gt off, 3)) (ht : (pc : Int) + off = (t : Int)) (kt : (b < a) → G y fs sh m t ls st Q) (kf : ¬ (b < a) → G y fs sh m (pc + 3) ls st Q) : G y fs sh m pc ls ((0, b) :: (0, a) :: st) Q := by
  intro w p l e R s mm args below meth c H locs cells slots c0 s0 Z la C hH hS hL h1 h2 hc hs hfc hfs hret
  refine lv_icmp_gt (tgt := t) C.1 C.2.1 hd ht (fun q => ?_) (fun q => ?_)
  · exact kt ((j_lt (jok_h h2) (jok_h (jok_t h2))).mp q) w p l e R s mm args below meth c H locs cells slots c0 s0 Z la C hH hS hL h1 (jok_t (jok_t h2)) hc hs hfc hfs hret
  · exact kf (fun z => q ((j_lt (jok_h h2) (jok_h (jok_t h2))).mpr z)) w p l e R s mm args below meth c H locs cells slots c0 s0 Z la C hH hS hL h1 (jok_t (jok_t h2)) hc hs hfc hfs hret
theorem G_icmp_le {y : jY} {fs sh : jS} {m : jM} {pc : Nat} {ls st : List jV} {Q : Int → jM → Prop} {a b : Int} {off : Int} (t : Nat) (hd : decode (jyc y) pc = .ok (.if_icmp .le off, 3)) (ht : (pc : Int) + off = (t : Int)) (kt : (a ≤ b) → G y fs sh m t ls st Q) (kf : ¬ (a ≤ b) → G y fs sh m (pc + 3) ls st Q) : G y fs sh m pc ls ((0, b) :: (0, a) :: st) Q := by
  intro w p l e R s mm args below meth c H locs cells slots c0 s0 Z la C hH hS hL h1 h2 hc hs hfc hfs hret
  refine lv_icmp_le (tgt := t) C.1 C.2.1 hd ht (fun q => ?_) (fun q => ?_)
  · exact kt ((j_le (jok_h (jok_t h2)) (jok_h h2)).mp q) w p l e R s mm args below meth c H locs cells slots c0 s0 Z la C hH hS hL h1 (jok_t (jok_t h2)) hc hs hfc hfs hret
  · exact kf (fun z => q ((j_le (jok_h (jok_t h2)) (jok_h h2)).mpr z)) w p l e R s mm args below meth c H locs cells slots c0 s0 Z la C hH hS hL h1 (jok_t (jok_t h2)) hc hs hfc hfs hret
theorem G_if_eq {y : jY} {fs sh : jS} {m : jM} {pc : Nat} {ls st : List jV} {Q : Int → jM → Prop} {a : Int} {off : Int} (t : Nat) (hd : decode (jyc y) pc = .ok (.ifCond .eq off, 3)) (ht : (pc : Int) + off = (t : Int)) (kt : (a = 0) → G y fs sh m t ls st Q) (kf : ¬ (a = 0) → G y fs sh m (pc + 3) ls st Q) : G y fs sh m pc ls ((0, a) :: st) Q := by
  intro w p l e R s mm args below meth c H locs cells slots c0 s0 Z la C hH hS hL h1 h2 hc hs hfc hfs hret
  refine lv_if_eq (tgt := t) C.1 C.2.1 hd ht (fun q => ?_) (fun q => ?_)
  · exact kt ((j_eq (jok_h h2) (j_ok0 (by omega) (by omega))).mp q) w p l e R s mm args below meth c H locs cells slots c0 s0 Z la C hH hS hL h1 (jok_t h2) hc hs hfc hfs hret
  · exact kf (fun z => q ((j_eq (jok_h h2) (j_ok0 (by omega) (by omega))).mpr z)) w p l e R s mm args below meth c H locs cells slots c0 s0 Z la C hH hS hL h1 (jok_t h2) hc hs hfc hfs hret
theorem G_if_ne {y : jY} {fs sh : jS} {m : jM} {pc : Nat} {ls st : List jV} {Q : Int → jM → Prop} {a : Int} {off : Int} (t : Nat) (hd : decode (jyc y) pc = .ok (.ifCond .ne off, 3)) (ht : (pc : Int) + off = (t : Int)) (kt : (a ≠ 0) → G y fs sh m t ls st Q) (kf : ¬ (a ≠ 0) → G y fs sh m (pc + 3) ls st Q) : G y fs sh m pc ls ((0, a) :: st) Q := by
  intro w p l e R s mm args below meth c H locs cells slots c0 s0 Z la C hH hS hL h1 h2 hc hs hfc hfs hret
  refine lv_if_ne (tgt := t) C.1 C.2.1 hd ht (fun q => ?_) (fun q => ?_)
  · exact kt ((not_congr (j_eq (jok_h h2) (j_ok0 (by omega) (by omega)))).mp q) w p l e R s mm args below meth c H locs cells slots c0 s0 Z la C hH hS hL h1 (jok_t h2) hc hs hfc hfs hret
  · exact kf (fun z => z ((j_eq (jok_h h2) (j_ok0 (by omega) (by omega))).mp q)) w p l e R s mm args below meth c H locs cells slots c0 s0 Z la C hH hS hL h1 (jok_t h2) hc hs hfc hfs hret
theorem G_if_lt {y : jY} {fs sh : jS} {m : jM} {pc : Nat} {ls st : List jV} {Q : Int → jM → Prop} {a : Int} {off : Int} (t : Nat) (hd : decode (jyc y) pc = .ok (.ifCond .lt off, 3)) (ht : (pc : Int) + off = (t : Int)) (kt : (a < 0) → G y fs sh m t ls st Q) (kf : ¬ (a < 0) → G y fs sh m (pc + 3) ls st Q) : G y fs sh m pc ls ((0, a) :: st) Q := by
  intro w p l e R s mm args below meth c H locs cells slots c0 s0 Z la C hH hS hL h1 h2 hc hs hfc hfs hret
  refine lv_if_lt (tgt := t) C.1 C.2.1 hd ht (fun q => ?_) (fun q => ?_)
  · exact kt ((j_lt (jok_h h2) (j_ok0 (by omega) (by omega))).mp q) w p l e R s mm args below meth c H locs cells slots c0 s0 Z la C hH hS hL h1 (jok_t h2) hc hs hfc hfs hret
  · exact kf (fun z => q ((j_lt (jok_h h2) (j_ok0 (by omega) (by omega))).mpr z)) w p l e R s mm args below meth c H locs cells slots c0 s0 Z la C hH hS hL h1 (jok_t h2) hc hs hfc hfs hret
theorem G_if_ge {y : jY} {fs sh : jS} {m : jM} {pc : Nat} {ls st : List jV} {Q : Int → jM → Prop} {a : Int} {off : Int} (t : Nat) (hd : decode (jyc y) pc = .ok (.ifCond .ge off, 3)) (ht : (pc : Int) + off = (t : Int)) (kt : (0 ≤ a) → G y fs sh m t ls st Q) (kf : ¬ (0 ≤ a) → G y fs sh m (pc + 3) ls st Q) : G y fs sh m pc ls ((0, a) :: st) Q := by
  intro w p l e R s mm args below meth c H locs cells slots c0 s0 Z la C hH hS hL h1 h2 hc hs hfc hfs hret
  refine lv_if_ge (tgt := t) C.1 C.2.1 hd ht (fun q => ?_) (fun q => ?_)
  · exact kt ((j_le (j_ok0 (by omega) (by omega)) (jok_h h2)).mp q) w p l e R s mm args below meth c H locs cells slots c0 s0 Z la C hH hS hL h1 (jok_t h2) hc hs hfc hfs hret
  · exact kf (fun z => q ((j_le (j_ok0 (by omega) (by omega)) (jok_h h2)).mpr z)) w p l e R s mm args below meth c H locs cells slots c0 s0 Z la C hH hS hL h1 (jok_t h2) hc hs hfc hfs hret
theorem G_if_gt {y : jY} {fs sh : jS} {m : jM} {pc : Nat} {ls st : List jV} {Q : Int → jM → Prop} {a : Int} {off : Int} (t : Nat) (hd : decode (jyc y) pc = .ok (.ifCond .gt off, 3)) (ht : (pc : Int) + off = (t : Int)) (kt : (0 < a) → G y fs sh m t ls st Q) (kf : ¬ (0 < a) → G y fs sh m (pc + 3) ls st Q) : G y fs sh m pc ls ((0, a) :: st) Q := by
  intro w p l e R s mm args below meth c H locs cells slots c0 s0 Z la C hH hS hL h1 h2 hc hs hfc hfs hret
  refine lv_if_gt (tgt := t) C.1 C.2.1 hd ht (fun q => ?_) (fun q => ?_)
  · exact kt ((j_lt (j_ok0 (by omega) (by omega)) (jok_h h2)).mp q) w p l e R s mm args below meth c H locs cells slots c0 s0 Z la C hH hS hL h1 (jok_t h2) hc hs hfc hfs hret
  · exact kf (fun z => q ((j_lt (j_ok0 (by omega) (by omega)) (jok_h h2)).mpr z)) w p l e R s mm args below meth c H locs cells slots c0 s0 Z la C hH hS hL h1 (jok_t h2) hc hs hfc hfs hret
theorem G_if_le {y : jY} {fs sh : jS} {m : jM} {pc : Nat} {ls st : List jV} {Q : Int → jM → Prop} {a : Int} {off : Int} (t : Nat) (hd : decode (jyc y) pc = .ok (.ifCond .le off, 3)) (ht : (pc : Int) + off = (t : Int)) (kt : (a ≤ 0) → G y fs sh m t ls st Q) (kf : ¬ (a ≤ 0) → G y fs sh m (pc + 3) ls st Q) : G y fs sh m pc ls ((0, a) :: st) Q := by
  intro w p l e R s mm args below meth c H locs cells slots c0 s0 Z la C hH hS hL h1 h2 hc hs hfc hfs hret
  refine lv_if_le (tgt := t) C.1 C.2.1 hd ht (fun q => ?_) (fun q => ?_)
  · exact kt ((j_le (jok_h h2) (j_ok0 (by omega) (by omega))).mp q) w p l e R s mm args below meth c H locs cells slots c0 s0 Z la C hH hS hL h1 (jok_t h2) hc hs hfc hfs hret
  · exact kf (fun z => q ((j_le (jok_h h2) (j_ok0 (by omega) (by omega))).mpr z)) w p l e R s mm args below meth c H locs cells slots c0 s0 Z la C hH hS hL h1 (jok_t h2) hc hs hfc hfs hret
theorem G_goto {y : jY} {fs sh : jS} {m : jM} {pc : Nat} {ls st : List jV} {Q : Int → jM → Prop} {off : Int} (t : Nat) (hd : decode (jyc y) pc = .ok (.goto off, 3)) (ht : (pc : Int) + off = (t : Int)) (k : G y fs sh m t ls st Q) : G y fs sh m pc ls st Q := by
  intro w p l e R s mm args below meth c H locs cells slots c0 s0 Z la C hH hS hL h1 h2 hc hs hfc hfs hret
  refine lv_goto (tgt := t) C.1 C.2.1 hd ht ?_
  exact k w p l e R s mm args below meth c H locs cells slots c0 s0 Z la C hH hS hL h1 h2 hc hs hfc hfs hret
theorem G_swIn {y : jY} {fs sh : jS} {m : jM} {pc : Nat} {ls st : List jV} {Q : Int → jM → Prop} {dflt lo hi off : Int} {offs : Array Int} {len : Nat} {x : Int} (t : Nat) (hd : decode (jyc y) pc = .ok (.tableswitch dflt lo hi offs, len)) (hlo : lo ≤ x) (hhi : x ≤ hi) (ho : offs[(x - lo).toNat]? = some off) (ht : (pc : Int) + off = (t : Int)) (k : G y fs sh m t ls st Q) : G y fs sh m pc ls ((0, x) :: st) Q := by
  intro w p l e R s mm args below meth c H locs cells slots c0 s0 Z la C hH hS hL h1 h2 hc hs hfc hfs hret
  have he := j_i (jok_h h2)
  refine lv_tableIn (tgt := t) C.1 C.2.1 hd (by rw [he]; omega) (by rw [he]; omega) (by rw [he]; exact ho) ht ?_
  exact k w p l e R s mm args below meth c H locs cells slots c0 s0 Z la C hH hS hL h1 (jok_t h2) hc hs hfc hfs hret
theorem G_swOut {y : jY} {fs sh : jS} {m : jM} {pc : Nat} {ls st : List jV} {Q : Int → jM → Prop} {dflt lo hi : Int} {offs : Array Int} {len : Nat} {x : Int} (t : Nat) (hd : decode (jyc y) pc = .ok (.tableswitch dflt lo hi offs, len)) (hx : x < lo ∨ hi < x) (ht : (pc : Int) + dflt = (t : Int)) (k : G y fs sh m t ls st Q) : G y fs sh m pc ls ((0, x) :: st) Q := by
  intro w p l e R s mm args below meth c H locs cells slots c0 s0 Z la C hH hS hL h1 h2 hc hs hfc hfs hret
  have he := j_i (jok_h h2)
  refine lv_tableOut (tgt := t) C.1 C.2.1 hd (by rw [he]; exact hx) ht ?_
  exact k w p l e R s mm args below meth c H locs cells slots c0 s0 Z la C hH hS hL h1 (jok_t h2) hc hs hfc hfs hret
theorem G_ret {y : jY} {fs sh : jS} {m : jM} {pc : Nat} {ls st : List jV} {Q : Int → jM → Prop} (hf : fs = sh) (hd : decode (jyc y) pc = .ok (.return_, 1)) (hr : jyr y = none) (k : Q 0 m) : G y fs sh m pc ls [] Q := by
  intro w p l e R s mm args below meth c H locs cells slots c0 s0 Z la C hH hS hL h1 h2 hc hs hfc hfs hret
  subst hf
  have e : jrst w y 0 = [] := by simp [jrst, hr]
  have K := hret 0 m H locs cells slots pc la hH hS hc hs k ⟨by simp only [jrt, hr]; exact j_ok0 (by omega) (by omega), fun h => by rw [hr] at h; cases h⟩ (by simp only [jri, hr]; exact hd)
  rw [e] at K
  exact K
theorem G_ireti {y : jY} {fs sh : jS} {m : jM} {pc : Nat} {ls st : List jV} {Q : Int → jM → Prop} {r : Int} (hf : fs = sh) (hd : decode (jyc y) pc = .ok (.ireturn, 1)) (hr : jyr y = some .int) (k : Q r m) : G y fs sh m pc ls [(0, r)] Q := by
  intro w p l e R s mm args below meth c H locs cells slots c0 s0 Z la C hH hS hL h1 h2 hc hs hfc hfs hret
  subst hf
  have e : jrst w y r = [jcv w (0, r)] := by simp [jrst, hr, jtag]
  have K := hret r m H locs cells slots pc la hH hS hc hs k ⟨by simp only [jrt, hr, jtag]; exact jok_h h2, fun h => by rw [hr] at h; cases h⟩ (by simp only [jri, hr]; exact hd)
  rw [e] at K
  exact K
theorem G_iretz {y : jY} {fs sh : jS} {m : jM} {pc : Nat} {ls st : List jV} {Q : Int → jM → Prop} {r : Int} (hf : fs = sh) (hd : decode (jyc y) pc = .ok (.ireturn, 1)) (hr : jyr y = some .boolean) (hb : r = 0 ∨ r = 1) (k : Q r m) : G y fs sh m pc ls [(0, r)] Q := by
  intro w p l e R s mm args below meth c H locs cells slots c0 s0 Z la C hH hS hL h1 h2 hc hs hfc hfs hret
  subst hf
  have e : jrst w y r = [jcv w (0, r)] := by simp [jrst, hr, jtag]
  have K := hret r m H locs cells slots pc la hH hS hc hs k ⟨by simp only [jrt, hr, jtag]; exact jok_h h2, fun _ => hb⟩ (by simp only [jri, hr]; exact hd)
  rw [e] at K
  exact K
theorem G_lret {y : jY} {fs sh : jS} {m : jM} {pc : Nat} {ls st : List jV} {Q : Int → jM → Prop} {r : Int} (hf : fs = sh) (hd : decode (jyc y) pc = .ok (.lreturn, 1)) (hr : jyr y = some .long) (k : Q r m) : G y fs sh m pc ls [(1, r)] Q := by
  intro w p l e R s mm args below meth c H locs cells slots c0 s0 Z la C hH hS hL h1 h2 hc hs hfc hfs hret
  subst hf
  have e : jrst w y r = [jcv w (1, r)] := by simp [jrst, hr, jtag]
  have K := hret r m H locs cells slots pc la hH hS hc hs k ⟨by simp only [jrt, hr, jtag]; exact jok_h h2, fun h => by rw [hr] at h; cases h⟩ (by simp only [jri, hr]; exact hd)
  rw [e] at K
  exact K
theorem G_mono {y : jY} {fs sh : jS} {m : jM} {pc : Nat} {ls st : List jV} {Q : Int → jM → Prop} {Q' : Int → jM → Prop} (h : G y fs sh m pc ls st Q) (hq : ∀ r m, Q r m → Q' r m) : G y fs sh m pc ls st Q' := by
  intro w p l e R s mm args below meth c H locs cells slots c0 s0 Z la C hH hS hL h1 h2 hc hs hfc hfs hret
  exact h w p l e R s mm args below meth c H locs cells slots c0 s0 Z la C hH hS hL h1 h2 hc hs hfc hfs (fun r m' H' locs' cells' slots' pc' la' a1 a2 a3 a4 a5 a6 a7 => hret r m' H' locs' cells' slots' pc' la' a1 a2 a3 a4 (hq r m' a5) a6 a7)
