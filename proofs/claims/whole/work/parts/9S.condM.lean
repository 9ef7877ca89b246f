/-! conds: what the operators that wait make of the values -/
def bv (b : Bool) : Int := if b then 1 else 0
/-- operators one behind the other into the code -/
def pcd : List Int → jM → jM
  | [], V => V
  | k :: W, V => pcd W (cdF (-k - 1) V)
def popS (x : Int → Int) : List Int → List Int → List Int
  | [], s => s
  | k :: W, s => popS x W (cx x (-k - 1) s)
theorem stl_pre {sg : Int} {W2 : List Int} : ∀ {W1 : List Int} {V : jM}, (∀ k ∈ W1, sg ≤ stg k) → stl sg (W1 ++ W2) V = stl sg W2 (pcd W1 V) := by
  intro W1
  induction W1 with
  | nil => intro V _; rfl
  | cons k r ih =>
    intro V h
    simp only [List.cons_append, stl, pcd]
    rw [if_pos (h k (by simp))]
    exact ih (fun y hy => h y (by simp [hy]))
theorem pcd_app {W1 W2 : List Int} : ∀ {V : jM}, pcd (W1 ++ W2) V = pcd W2 (pcd W1 V) := by
  induction W1 with
  | nil => intro V; rfl
  | cons k r ih => intro V; simp only [List.cons_append, pcd]; exact ih
theorem pcd_16 : ∀ {W : List Int} {V : jM}, pcd W V 0 16 = V 0 16 + (W.length : Int) := by
  intro W
  induction W with
  | nil => intro V; simp [pcd]
  | cons k r ih =>
    intro V
    simp only [pcd, List.length_cons]
    rw [ih]
    have : cdF (-k - 1) V 0 16 = V 0 16 + 1 := rfl
    omega
theorem pcd_V : ∀ {W : List Int} {V : jM}, exV V (pcd W V) ∧ ∀ j, j ≠ 16 → pcd W V 0 j = V 0 j := by
  intro W
  induction W with
  | nil => intro V; exact ⟨exV_rf, fun _ _ => rfl⟩
  | cons k r ih =>
    intro V
    simp only [pcd]
    have h := ih (V := cdF (-k - 1) V)
    exact ⟨exV_tr (exV_c exV_rf) h.1, fun j hj => (h.2 j hj).trans (by unfold cdF; rw [jup_j hj, jup_ne (by decide)])⟩
theorem pcd_S {x : Int → Int} {st : Int} : ∀ {W : List Int} {V : jM}, st ≤ V 0 16 → cS (pcd W V) x st = popS x W (cS V x st) := by
  intro W
  induction W with
  | nil => intro V _; rfl
  | cons k r ih =>
    intro V h
    simp only [pcd, popS]
    rw [ih (by have : cdF (-k - 1) V 0 16 = V 0 16 + 1 := rfl; omega), cS_cd h]
/-- kinds of operators that wait -/
def kO (k : Int) : Prop := k = 14 ∨ k = 15 ∨ k = 16 ∨ (25 ≤ k ∧ k ≤ 31)
theorem cx_len {x : Int → Int} {k : Int} (hk : kO k) (s : List Int) : (cx x (-k - 1) s).length ≤ s.length := by
  unfold kO at hk
  unfold cx
  rw [if_neg (by omega), if_neg (by omega)]
  split
  · cases s with
    | nil => exact Nat.le_refl _
    | cons a r => exact Nat.le_refl _
  · match s with
    | [] => exact Nat.le_refl _
    | [a] => exact Nat.le_refl _
    | b :: a :: r => simp only [List.length_cons]; omega
theorem pcd_ok {st : Int} : ∀ {W : List Int} {V : jM}, cOk (V 32) st (V 0 16) → st ≤ V 0 16 → V 0 16 + (W.length : Int) ≤ 400 → (∀ k ∈ W, kO k) → (∀ x, (cS V x st).length ≤ 31) → cOk ((pcd W V) 32) st ((pcd W V) 0 16) := by
  intro W
  induction W with
  | nil => intro V h _ _ _ _; exact h
  | cons k r ih =>
    intro V h hst hl hk hs
    simp only [pcd, List.length_cons] at hl ⊢
    have e16 : cdF (-k - 1) V 0 16 = V 0 16 + 1 := rfl
    have hk0 := hk k (by simp)
    refine ih ?_ (by omega) (by omega) (fun y hy => hk y (by simp [hy])) (fun x => ?_)
    · rw [e16]
      refine cOk_ext h (by omega) (fun i hi => by unfold cdF; rw [jup_ne (by decide), jup_j (by omega)]) (by unfold cdF; rw [jup_ne (by decide), jup_s]) (by unfold kO at hk0; omega) (fun x => ?_)
      have q := hs x
      unfold cS at q
      omega
    · rw [cS_cd hst]
      have := cx_len (x := x) hk0 (cS V x st)
      have := hs x
      omega
/-- an odd number of NOTs -/
def nt : Nat → Int
  | 0 => 0
  | n + 1 => if nt n ≠ 0 then 0 else 1
theorem nt_01 (n : Nat) : nt n = 0 ∨ nt n = 1 := by
  cases n with
  | zero => exact Or.inl rfl
  | succ n => simp only [nt]; split; exact Or.inl rfl; exact Or.inr rfl
theorem bv_not (b : Bool) : jw (1 - bv b) = bv (!b) := by
  cases b <;> rfl
theorem cx16 {x : Int → Int} {b : Bool} {s : List Int} : cx x (-16 - 1) (bv b :: s) = bv (!b) :: s := by
  unfold cx
  rw [if_neg (by decide), if_neg (by decide), if_pos (by decide)]
  simp only
  rw [bv_not]
theorem popS_not {x : Int → Int} {s : List Int} : ∀ (n : Nat) (b : Bool), popS x (List.replicate n 16) (bv b :: s) = bv (b != decide (nt n ≠ 0)) :: s := by
  have key : ∀ (n : Nat) (b : Bool), popS x (List.replicate n 16) (bv b :: s) = bv (b != (n % 2 == 1)) :: s := by
    intro n
    induction n with
    | zero => intro b; cases b <;> rfl
    | succ n ih =>
      intro b
      simp only [List.replicate_succ, popS]
      rw [cx16, ih]
      congr 2
      rcases Nat.mod_two_eq_zero_or_one n with h | h
      · have h2 : (n + 1) % 2 = 1 := by omega
        rw [h, h2]; cases b <;> rfl
      · have h2 : (n + 1) % 2 = 0 := by omega
        rw [h, h2]; cases b <;> rfl
  have e : ∀ n : Nat, (n % 2 = 0 → nt n = 0) ∧ (n % 2 = 1 → nt n = 1) := by
    intro n
    induction n with
    | zero => exact ⟨fun _ => rfl, fun h => absurd h (by decide)⟩
    | succ n ih =>
      have s : nt (n + 1) = if nt n ≠ 0 then 0 else 1 := rfl
      rcases Nat.mod_two_eq_zero_or_one n with h | h
      · rw [ih.1 h, if_neg (fun w => w rfl)] at s
        exact ⟨fun w => by omega, fun _ => s⟩
      · rw [ih.2 h, if_pos (by decide)] at s
        exact ⟨fun _ => s, fun w => by omega⟩
  intro n b
  rw [key]
  rcases Nat.mod_two_eq_zero_or_one n with h | h
  · rw [h, decide_eq_false (fun w => w ((e n).1 h))]; rfl
  · rw [h, decide_eq_true (by rw [(e n).2 h]; decide)]; rfl
def cmpB (op u w : Int) : Bool := if op = 300 then decide (u = w) else if op = 301 then decide (u ≠ w) else if op = 302 then decide (u ≤ w) else decide (u < w)
theorem cmb_cmp {c u w : Int} (h0 : 28 ≤ c) (h1 : c ≤ 31) : cmb c u w = bv (cmpB (sgn c) u w) := by
  have h : c = 28 ∨ c = 29 ∨ c = 30 ∨ c = 31 := by omega
  rcases h with rfl | rfl | rfl | rfl
  · have e : sgn 28 = 300 := by decide
    unfold cmb cmpB bv
    rw [e]
    by_cases c : u = w <;> simp [c]
  · have e : sgn 29 = 301 := by decide
    unfold cmb cmpB bv
    rw [e]
    by_cases c : u = w <;> simp [c]
  · have e : sgn 30 = 60 := by decide
    unfold cmb cmpB bv
    rw [e]
    by_cases c : u < w <;> simp [c]
  · have e : sgn 31 = 302 := by decide
    unfold cmb cmpB bv
    rw [e]
    by_cases c : u ≤ w <;> simp [c]
theorem cx_cmp {x : Int → Int} {c u w : Int} {s : List Int} (h0 : 28 ≤ c) (h1 : c ≤ 31) : cx x (-c - 1) (w :: u :: s) = bv (cmpB (sgn c) u w) :: s := by
  unfold cx
  rw [if_neg (by omega), if_neg (by omega), if_neg (by omega)]
  simp only
  rw [show -(-c - 1) - 1 = c by omega, cmb_cmp h0 h1]
theorem cx15 {x : Int → Int} {a b : Bool} {s : List Int} : cx x (-15 - 1) (bv b :: bv a :: s) = bv (a && b) :: s := by
  have e : cmb 15 (bv a) (bv b) = bv (a && b) := by cases a <;> cases b <;> decide
  unfold cx
  rw [if_neg (by decide), if_neg (by decide), if_neg (by decide)]
  simp only
  rw [show -(-15 - 1) - 1 = (15 : Int) by decide, e]
theorem cx14 {x : Int → Int} {a b : Bool} {s : List Int} : cx x (-14 - 1) (bv b :: bv a :: s) = bv (a || b) :: s := by
  have e : cmb 14 (bv a) (bv b) = bv (a || b) := by cases a <;> cases b <;> decide
  unfold cx
  rw [if_neg (by decide), if_neg (by decide), if_neg (by decide)]
  simp only
  rw [show -(-14 - 1) - 1 = (14 : Int) by decide, e]
/-- what may wait between lits -/
def bsK (b : List Int) : Prop := b = [] ∨ b = [15] ∨ b = [14] ∨ b = [15, 14]
/-- the values that wait there; h: what hd says of the lits so far -/
def stB (b : List Int) (h : Bool × Bool) : List Int := if b = [] then [] else if b = [15] then [bv h.2] else if b = [14] then [bv (h.1 || h.2)] else [bv h.2, bv h.1]
/-- hd with one lit more -/
def nxB (b : List Int) (h : Bool × Bool) (l : Bool) : Bool × Bool := if b = [14] then (h.1 || h.2, l) else (h.1, h.2 && l)
theorem bs_and {b : List Int} (hb : bsK b) : ∃ b1 b2, b = b1 ++ b2 ∧ (∀ k ∈ b1, k = 15) ∧ (b2 = [] ∨ b2 = [14]) ∧ bsK (15 :: b2) ∧ (15 :: b2 = [15] → b ≠ [14] ∧ b ≠ [15, 14]) ∧ ∀ (x : Int → Int) (h : Bool × Bool) (l : Bool), (b = [] → h = (false, true)) → (b = [15] → h.1 = false) → popS x b1 (bv l :: stB b h) = stB (15 :: b2) (nxB b h l) := by
  rcases hb with rfl | rfl | rfl | rfl
  · refine ⟨[], [], rfl, by simp, Or.inl rfl, Or.inr (Or.inl rfl), by decide, fun x h l h0 _ => ?_⟩
    rw [h0 rfl]
    cases l <;> rfl
  · refine ⟨[15], [], rfl, by simp, Or.inl rfl, Or.inr (Or.inl rfl), by decide, fun x h l _ h1 => ?_⟩
    have e : popS x [15] (bv l :: stB [15] h) = cx x (-15 - 1) (bv l :: bv h.2 :: []) := rfl
    rw [e, cx15]
    rfl
  · refine ⟨[], [14], rfl, by simp, Or.inr rfl, Or.inr (Or.inr (Or.inr rfl)), by decide, fun x h l _ _ => ?_⟩
    rfl
  · refine ⟨[15], [14], rfl, by simp, Or.inr rfl, Or.inr (Or.inr (Or.inr rfl)), by decide, fun x h l _ _ => ?_⟩
    have e : popS x [15] (bv l :: stB [15, 14] h) = cx x (-15 - 1) (bv l :: bv h.2 :: [bv h.1]) := rfl
    rw [e, cx15]
    rfl
theorem bs_all {b : List Int} (hb : bsK b) (x : Int → Int) (h : Bool × Bool) (l : Bool) (h0 : b = [] → h = (false, true)) (h1 : b = [15] → h.1 = false) : popS x b (bv l :: stB b h) = [bv ((nxB b h l).1 || (nxB b h l).2)] := by
  rcases hb with rfl | rfl | rfl | rfl
  · rw [h0 rfl]
    cases l <;> rfl
  · have e : popS x [15] (bv l :: stB [15] h) = cx x (-15 - 1) (bv l :: bv h.2 :: []) := rfl
    rw [e, cx15]
    have e2 : nxB [15] h l = (h.1, h.2 && l) := rfl
    rw [e2, h1 rfl, Bool.false_or]
  · have e : popS x [14] (bv l :: stB [14] h) = cx x (-14 - 1) (bv l :: bv (h.1 || h.2) :: []) := rfl
    rw [e, cx14]
    rfl
  · have e : popS x [15, 14] (bv l :: stB [15, 14] h) = cx x (-14 - 1) (cx x (-15 - 1) (bv l :: bv h.2 :: [bv h.1])) := rfl
    rw [e, cx15, cx14]
    rfl
theorem bs_len {b : List Int} (hb : bsK b) (h : Bool × Bool) : ((stB b h).length : Int) = nbW b ∧ hdS b ≤ 2 ∧ (∀ k ∈ b, kO k) ∧ nbW b ≤ 2 ∧ (∀ k ∈ b, 1 ≤ stg k) ∧ b.length ≤ 2 := by
  unfold kO
  rcases hb with rfl | rfl | rfl | rfl
  · exact ⟨rfl, by decide, by simp, by decide, by simp, by decide⟩
  · exact ⟨rfl, by decide, by simp, by decide, by simp; decide, by decide⟩
  · exact ⟨rfl, by decide, by simp, by decide, by simp; decide, by decide⟩
  · exact ⟨rfl, by decide, by simp, by decide, by simp; decide, by decide⟩
/-- over lits one after the other -/
theorem hd_cg {V W : jM} {x : Int → Int} {a : Int} : ∀ j : Nat, (∀ i, a ≤ i → i < a + j → litB V x i = litB W x i ∧ V 29 i = W 29 i) → hd V x a j = hd W x a j := by
  intro j
  induction j with
  | zero => intro _; rfl
  | succ j ih =>
    intro h
    have h1 := h (a + j) (by omega) (by omega)
    simp only [hd]
    rw [ih (fun i i0 i1 => h i i0 (by omega)), h1.1]
    by_cases c : j = 0
    · rw [if_pos (Or.inl c), if_pos (Or.inl c)]
    · have h2 := h (a + j - 1) (by omega) (by omega)
      rw [h1.2, h2.2]
