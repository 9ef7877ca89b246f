/-! looking at a day -/
/-- a day that can be looked at -/
def lkK (m : jM) (day n : Int) : Prop := 0 ≤ frc m day ∧ 0 ≤ n ∧ n ≤ m 139 44
theorem c_look {m : jM} {Q : Int → jM → Prop} {day n : Int} (hfc : fcInv m) (hx : txInv m) (hw : vwInv m) (hs0 : 0 ≤ m 11 5) (hs : m 11 5 < 2147483647) (hno : ¬ lkK m day n → Q 0 m) (hQ : ∀ m', lkK m day n → frx tnUp tnUf m m' → vwG (vw m (frc m day) day n) (frc m day) m' → 1 ≤ m' 11 5 → (m' = m ∨ m' 11 5 = m 11 5 + 1) → Q 1 m') : ML iX10_look [(2, 0), (0, day), (0, n)] m Q := by
  have xt := hx.1
  have fi := frc_in xt.1 day
  have e0 : m 13 0 = m 139 44 := hfc.2.1
  unfold lkK at *
  refine sX10_look (c_inForce xt.1 xt.2.1 xt.2.2 (fun j j0 j1 => (hx.2 j j0 j1).1) ⟨fun z => hno (by omega), fun z => sX10_isKnowledge ⟨fun y => ⟨fun w => absurd rfl w, fun _ => hno (by omega)⟩, fun y => ⟨fun y2 => ⟨fun w => absurd rfl w, fun _ => hno (by omega)⟩, fun y2 => ⟨fun _ => ?_, fun w => absurd (by decide) w⟩⟩⟩⟩)
  exact c_turn hfc hx hw (by omega) (by omega) (by omega) (by omega) (by omega) (by omega) hs0 hs (fun m' f g s o => hQ m' (by omega) f g s o)
theorem c_isDayR {m : jM} {Q : Int → jM → Prop} {day n : Int} (h0 : 0 ≤ m 139 12) (h3 : m 139 12 ≤ 3) (hno : ¬ lkK m day n → Q 0 m) (hQ : lkK m day n → Q 1 m) : ML iX11_isDay [(2, 139), (0, day), (0, n)] m Q := by
  unfold lkK at *
  refine sX11_isDay (c_force h0 h3 ⟨fun z => hno (by omega), fun z => sX11_isKnown ⟨fun y => ⟨fun _ => hno (by omega), fun w => absurd rfl w⟩, fun y => ⟨fun y2 => ⟨fun _ => hno (by omega), fun w => absurd rfl w⟩, fun y2 => ⟨fun w => absurd w (by decide), fun _ => hQ (by omega)⟩⟩⟩⟩)
theorem c_isKnownChildR {m : jM} {Q : Int → jM → Prop} {c n : Int} (h : fcK m) (hno : ¬ (0 ≤ c ∧ c < kn m n) → Q 0 m) (hQ : 0 ≤ c → c < kn m n → Q 1 m) : ML iX11_isKnownChild [(2, 139), (0, c), (0, n)] m Q := by
  have t := h.1
  have hkn := kn_nn m n t.2.2.1
  refine sX11_isKnownChild (sX11_isChild ⟨fun z => ⟨fun _ => hno (by omega), fun z => absurd rfl z⟩, fun z => ⟨fun z2 => ⟨fun _ => hno (by omega), fun z => absurd rfl z⟩, fun z2 => ⟨fun z => absurd z (by decide), fun _ => ⟨by omega, by omega, fun z3 => hno (fun y => ?_), fun z3 => hQ (by omega) ?_⟩⟩⟩⟩)
  · have := (kn_iff h (n := n) y.1 (by omega)).mpr y.2
    omega
  · exact (kn_iff h (n := n) (by omega) (by omega)).mp (by omega)
theorem c_knowsChild {m : jM} {Q : Int → jM → Prop} {c n : Int} (h : fcInv m) (n0 : 0 ≤ n) (n1 : n ≤ m 139 44) (hno : ¬ (0 ≤ c ∧ c < kn m n) → Q 0 m) (hQ : 0 ≤ c → c < kn m n → Q 1 m) : ML iX10_knowsChild [(2, 0), (0, c), (0, n)] m Q := by
  have e0 : m 13 0 = m 139 44 := h.2.1
  refine sX10_knowsChild (sX10_isKnowledge ⟨fun y => absurd n0 (by omega), fun _ => ⟨fun y => absurd n1 (by omega), fun _ => ⟨fun z => absurd z (by decide), fun _ => c_childrenKnown h (sX10_within ⟨fun y => ⟨fun _ => hno (by omega), fun w => absurd rfl w⟩, fun y => ⟨fun y2 => ⟨fun _ => hno (by omega), fun w => absurd rfl w⟩, fun y2 => ⟨fun w => absurd w (by decide), fun _ => hQ (by omega) (by omega)⟩⟩⟩)⟩⟩⟩)
