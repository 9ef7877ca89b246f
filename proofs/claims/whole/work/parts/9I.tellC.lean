/-! one TELL in the class -/
noncomputable def teF (K S Wv : Int → Int) (P : Int × Int × Int) (V : jM) : (Int × Int × Int) × jM :=
  if K P.1 = 0 then (sxPlace K S V P, if (sxPlace K S V P).2.1 = 0 then smPlace Wv S P.1 V else V)
  else if K P.1 = 1 then (sxWay K S V P, if (sxWay K S V P).2.1 = 0 then smWay K Wv S P.1 V else V)
  else if K P.1 = 2 then (sxSchool K S V P, if (sxSchool K S V P).2.1 = 0 then smSchool Wv S P.1 V else V)
  else if K P.1 = 3 then (sxStop K S V P, if (sxStop K S V P).2.1 = 0 then smStop Wv S P.1 V else V)
  else if K P.1 = 4 then ((xfR K S Wv V P).1, smRight K S Wv V P)
  else if 5 ≤ K P.1 ∧ K P.1 ≤ 9 then (sxRule K S (K P.1) P, if (sxRule K S (K P.1) P).2.1 = 0 then smRule Wv S (K P.1) P.1 V else V)
  else if K P.1 = 10 then (sxBus K S P, if (sxBus K S P).2.1 = 0 then smBus Wv P.1 V else V)
  else (flF S 1 P, V)
/-- code and rights are left alone -/
def cdK (V V' : jM) : Prop := V' 0 16 = V 0 16 ∧ V' 0 4 = V 0 4 ∧ V' 32 = V 32 ∧ V' 33 = V 33
theorem cdK_rf {V : jM} : cdK V V := ⟨rfl, rfl, rfl, rfl⟩
theorem cCd_U {V V' m m' : jM} {t : Int} (ht : jTx t) (h : cCd V t m) (hf : rdU t m m') (hv : cdK V V') : cCd V' t m' := by
  have tr := jTx_rng ht
  unfold cCd at *
  rw [hv.1, hv.2.1, hv.2.2.1, hv.2.2.2, hf t 16 (by omega), rdU_row hf (q := t + 9) (by omega), rdU_row hf (q := t + 8) (by omega)]
  exact h
theorem cdK_place {W S : Int → Int} {a : Int} {V : jM} : cdK V (smPlace W S a V) := by
  unfold smPlace
  refine ⟨?_, ?_, ?_, ?_⟩
  · rw [jup_j (by decide)]; exact tlN_V.1 16 (by decide) (by decide) (by decide)
  · rw [jup_j (by decide)]; exact tlN_V.1 4 (by decide) (by decide) (by decide)
  · rw [jup_ne (by decide)]; exact tlN_V.2.1 32 (by decide) (by decide) (by decide)
  · rw [jup_ne (by decide)]; exact tlN_V.2.1 33 (by decide) (by decide) (by decide)
