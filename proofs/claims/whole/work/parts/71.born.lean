theorem cla_ex (v : Int32) : ∃ m : Nat, m ≤ 1024 ∧ (if (if (1024 : Int32) ≤ v then (1024 : Int32) else v) ≤ (0 : Int32) then (0 : Int32) else (if (1024 : Int32) ≤ v then (1024 : Int32) else v)) = Int32.ofNat m ∧ xm_cla v = Int32.ofNat m := by
  unfold xm_cla
  by_cases h1 : (1024 : Int32) ≤ v
  · refine ⟨1024, Nat.le_refl _, ?_, ?_⟩
    · rw [if_pos h1, if_neg (by decide)]; rfl
    · rw [if_pos (by rw [Int32.le_iff_toInt_le] at h1 ⊢; have : (1024 : Int32).toInt = 1024 := by decide
                     have : (0 : Int32).toInt = 0 := by decide
                     omega)]
      by_cases h2 : v ≤ 1024
      · rw [if_pos h2]; exact Int32.le_antisymm h2 h1
      · rw [if_neg h2]; rfl
  · rw [if_neg h1]
    have e1 : (1024 : Int32).toInt = 1024 := by decide
    have e0 : (0 : Int32).toInt = 0 := by decide
    by_cases h2 : v ≤ (0 : Int32)
    · refine ⟨0, by omega, by rw [if_pos h2]; rfl, ?_⟩
      by_cases h3 : (0 : Int32) ≤ v
      · rw [if_pos h3, if_pos (by rw [Int32.le_iff_toInt_le] at h1 ⊢; omega)]; exact Int32.le_antisymm h2 h3
      · rw [if_neg h3]; rfl
    · have h4 : v.toInt < 1024 ∧ 0 < v.toInt := by
        rw [Int32.le_iff_toInt_le] at h1 h2; omega
      refine ⟨v.toInt.toNat, by omega, ?_, ?_⟩
      · rw [if_neg h2]
        refine Int32.toInt_inj.mp ?_
        rw [toInt_of rfl (by omega)]; omega
      · rw [if_pos (by rw [Int32.le_iff_toInt_le]; omega), if_pos (by rw [Int32.le_iff_toInt_le]; omega)]
        refine Int32.toInt_inj.mp ?_
        rw [toInt_of rfl (by omega)]; omega
theorem xS_lt {k : Nat} {q : xm_Sh} (h : xS_o k = some q) : k < 178 := by
  refine Nat.not_le.mp fun hk => ?_
  unfold xS_o at h
  repeat rw [if_neg (by omega)] at h
  cases h
theorem st_born {E : xm_E} {b : Nat} {M : xm_M} (h : xm_born E b M) : xm_st b false false M := by
  unfold xm_born at h
  refine ⟨fun a q hq => ?_, fun a k q hq => ?_, fun c => (by cases c), fun c => (by cases c)⟩
  · unfold xS at hq
    by_cases hb : b ≤ a
    · rw [if_pos hb] at hq
      have := h.2.1 (a - b) (xS_lt hq)
      rw [show b + (a - b) = a by omega] at this
      exact this.trans hq
    · rw [if_neg hb] at hq; cases hq
  · unfold xP at hq
    by_cases hb : b ≤ a
    · rw [if_pos hb] at hq
      obtain ⟨o, ho⟩ : ∃ o, a = b + o := ⟨a - b, by omega⟩
      subst ho
      rw [show b + o - b = o by omega] at hq
      obtain ⟨-, -, h3, h4, -, -⟩ := h
      unfold xP_o at hq
      split at hq
      all_goals first
        | (cases hq; exact (h3 (_, _, _) (by decide)).2)
        | (cases hq; done)
        | (split at hq
           · rename_i hi
             cases hq
             first
               | exact ((h4 (2, 48) (by decide)).2 _ hi).trans (congrArg some (by show b + (2 + 1) + _ = b + (3 + _); omega))
               | exact ((h4 (56, 48) (by decide)).2 _ hi).trans (congrArg some (by show b + (56 + 1) + _ = b + (57 + _); omega))
               | exact ((h4 (115, 10) (by decide)).2 _ hi).trans (congrArg some (by show b + (115 + 1) + _ = b + (116 + _); omega))
               | exact ((h4 (130, 13) (by decide)).2 _ hi).trans (congrArg some (by show b + (130 + 1) + _ = b + (131 + _); omega))
           · cases hq)
    · rw [if_neg hb] at hq; cases hq
theorem Rl_born {E : xm_E} {b : Nat} {M : xm_M} (h : xm_born E b M) : Rl b M := by
  unfold xm_born at h
  obtain ⟨-, -, -, -, hv, hl⟩ := h
  have z : ∀ a j, (∀ o, o = 0 ∨ o = 1 ∨ o = 154 → a ≠ b + o) → xm_gi M a j = 0 := fun a j ha => by
    rw [hv]
    refine xm_iv_0 ?_
    simp only [List.forall_mem_cons]
    refine ⟨ha _ (by omega), ha _ (by omega), ha _ (by omega), ha _ (by omega), ?_⟩
    intro v hv; cases hv
  refine ⟨?_, ?_, ?_, ?_, ?_, ?_⟩
  · obtain ⟨m, m1, m2, m3⟩ := cla_ex (xm_c0 E)
    refine ⟨0, m, by omega, m1, ?_, ?_, ?_, ?_, fun i hi => ?_, fun i hi => absurd hi (Nat.not_lt_zero i)⟩
    · rw [hv]; simp [xm_iv]
    · rw [hv]; simp [xm_iv]
    · rw [hv]; simp only [xm_iv]; rw [← m2]; simp
    · rw [hv]; simp only [xm_iv]; rw [← m3]; simp
    · refine ⟨?_, ?_, ?_, ?_, ?_⟩ <;> rw [z _ _ (by omega), z _ _ (by omega)]
  · refine ⟨0, by omega, ?_, ?_, fun i hi => absurd hi (Nat.not_lt_zero i)⟩
    · exact z _ _ (by omega)
    · rw [hv]; simp [xm_iv]
  · unfold RlW; rw [hv, hv]; simp [xm_iv]
  · refine ⟨0, by omega, ?_, ?_, fun i hi => absurd hi (Nat.not_lt_zero i)⟩
    · exact z _ _ (by omega)
    · rw [hv]; simp [xm_iv]
  · refine ⟨?_, ?_⟩ <;> rw [z _ _ (by omega), hv] <;> simp [xm_iv]
  · intro i u hi hu
    rw [hl, if_pos (by omega)]
