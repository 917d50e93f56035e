/-! static methods without calls -/
def f99 (x1 : Int32) : Int32 := (if x1 = (98 : Int32) then (8 : Int32) else (if x1 = (102 : Int32) then (12 : Int32) else (if x1 = (110 : Int32) then (10 : Int32) else (if x1 = (114 : Int32) then (13 : Int32) else (if x1 = (116 : Int32) then (9 : Int32) else (-1 : Int32))))))
theorem p99 {C : Cx} {d : Nat} {Post : OutT → Ht → Prop} {t : Ht} {x1 : Int32} (k : Post (.inl (some (svI (f99 x1)))) t) : CalG C mtab (d + 1) 99 [svI x1] t Post := by
  refine cal99 ?_
  unfold vc99
  unfold f99 at k
  refine ⟨fun e => ?_, fun e => ?_⟩
  · rw [if_pos e] at k
    exact k
  · rw [if_neg e] at k
    refine ⟨fun e => ?_, fun e => ?_⟩
    · rw [if_pos e] at k
      exact k
    · rw [if_neg e] at k
      refine ⟨fun e => ?_, fun e => ?_⟩
      · rw [if_pos e] at k
        exact k
      · rw [if_neg e] at k
        refine ⟨fun e => ?_, fun e => ?_⟩
        · rw [if_pos e] at k
          exact k
        · rw [if_neg e] at k
          refine ⟨fun e => ?_, fun e => ?_⟩
          · rw [if_pos e] at k
            exact k
          · rw [if_neg e] at k
            exact k
def f101 (x1 : Int32) : Int32 := (if x1 < (48 : Int32) then (if x1 < (97 : Int32) then (if x1 < (65 : Int32) then (-1 : Int32) else (if (70 : Int32) < x1 then (-1 : Int32) else ((x1 - (65 : Int32)) + (10 : Int32)))) else (if (102 : Int32) < x1 then (if x1 < (65 : Int32) then (-1 : Int32) else (if (70 : Int32) < x1 then (-1 : Int32) else ((x1 - (65 : Int32)) + (10 : Int32)))) else ((x1 - (97 : Int32)) + (10 : Int32)))) else (if (57 : Int32) < x1 then (if x1 < (97 : Int32) then (if x1 < (65 : Int32) then (-1 : Int32) else (if (70 : Int32) < x1 then (-1 : Int32) else ((x1 - (65 : Int32)) + (10 : Int32)))) else (if (102 : Int32) < x1 then (if x1 < (65 : Int32) then (-1 : Int32) else (if (70 : Int32) < x1 then (-1 : Int32) else ((x1 - (65 : Int32)) + (10 : Int32)))) else ((x1 - (97 : Int32)) + (10 : Int32)))) else (x1 - (48 : Int32))))
theorem p101 {C : Cx} {d : Nat} {Post : OutT → Ht → Prop} {t : Ht} {x1 : Int32} (k : Post (.inl (some (svI (f101 x1)))) t) : CalG C mtab (d + 1) 101 [svI x1] t Post := by
  refine cal101 ?_
  unfold vc101
  unfold f101 at k
  refine ⟨fun e => ?_, fun e => ?_⟩
  · rw [if_pos e] at k
    refine ⟨fun e => ?_, fun e => ?_⟩
    · rw [if_pos e] at k
      refine ⟨fun e => ?_, fun e => ?_⟩
      · rw [if_pos e] at k
        exact k
      · rw [if_neg e] at k
        refine ⟨fun e => ?_, fun e => ?_⟩
        · rw [if_pos e] at k
          exact k
        · rw [if_neg e] at k
          exact k
    · rw [if_neg e] at k
      refine ⟨fun e => ?_, fun e => ?_⟩
      · rw [if_pos e] at k
        refine ⟨fun e => ?_, fun e => ?_⟩
        · rw [if_pos e] at k
          exact k
        · rw [if_neg e] at k
          refine ⟨fun e => ?_, fun e => ?_⟩
          · rw [if_pos e] at k
            exact k
          · rw [if_neg e] at k
            exact k
      · rw [if_neg e] at k
        exact k
  · rw [if_neg e] at k
    refine ⟨fun e => ?_, fun e => ?_⟩
    · rw [if_pos e] at k
      refine ⟨fun e => ?_, fun e => ?_⟩
      · rw [if_pos e] at k
        refine ⟨fun e => ?_, fun e => ?_⟩
        · rw [if_pos e] at k
          exact k
        · rw [if_neg e] at k
          refine ⟨fun e => ?_, fun e => ?_⟩
          · rw [if_pos e] at k
            exact k
          · rw [if_neg e] at k
            exact k
      · rw [if_neg e] at k
        refine ⟨fun e => ?_, fun e => ?_⟩
        · rw [if_pos e] at k
          refine ⟨fun e => ?_, fun e => ?_⟩
          · rw [if_pos e] at k
            exact k
          · rw [if_neg e] at k
            refine ⟨fun e => ?_, fun e => ?_⟩
            · rw [if_pos e] at k
              exact k
            · rw [if_neg e] at k
              exact k
        · rw [if_neg e] at k
          exact k
    · rw [if_neg e] at k
      exact k
def f103 (x1 : Int32) : Int32 := (if x1 < 0 then (if x1 < (192 : Int32) then (if x1 < (224 : Int32) then (if x1 < (240 : Int32) then (-1 : Int32) else (if (248 : Int32) ≤ x1 then (-1 : Int32) else (3 : Int32))) else (if (240 : Int32) ≤ x1 then (if x1 < (240 : Int32) then (-1 : Int32) else (if (248 : Int32) ≤ x1 then (-1 : Int32) else (3 : Int32))) else (2 : Int32))) else (if (224 : Int32) ≤ x1 then (if x1 < (224 : Int32) then (if x1 < (240 : Int32) then (-1 : Int32) else (if (248 : Int32) ≤ x1 then (-1 : Int32) else (3 : Int32))) else (if (240 : Int32) ≤ x1 then (if x1 < (240 : Int32) then (-1 : Int32) else (if (248 : Int32) ≤ x1 then (-1 : Int32) else (3 : Int32))) else (2 : Int32))) else (1 : Int32))) else (if (128 : Int32) ≤ x1 then (if x1 < (192 : Int32) then (if x1 < (224 : Int32) then (if x1 < (240 : Int32) then (-1 : Int32) else (if (248 : Int32) ≤ x1 then (-1 : Int32) else (3 : Int32))) else (if (240 : Int32) ≤ x1 then (if x1 < (240 : Int32) then (-1 : Int32) else (if (248 : Int32) ≤ x1 then (-1 : Int32) else (3 : Int32))) else (2 : Int32))) else (if (224 : Int32) ≤ x1 then (if x1 < (224 : Int32) then (if x1 < (240 : Int32) then (-1 : Int32) else (if (248 : Int32) ≤ x1 then (-1 : Int32) else (3 : Int32))) else (if (240 : Int32) ≤ x1 then (if x1 < (240 : Int32) then (-1 : Int32) else (if (248 : Int32) ≤ x1 then (-1 : Int32) else (3 : Int32))) else (2 : Int32))) else (1 : Int32))) else (0 : Int32)))
theorem p103 {C : Cx} {d : Nat} {Post : OutT → Ht → Prop} {t : Ht} {x1 : Int32} (k : Post (.inl (some (svI (f103 x1)))) t) : CalG C mtab (d + 1) 103 [svI x1] t Post := by
  refine cal103 ?_
  unfold vc103
  unfold f103 at k
  refine ⟨fun e => ?_, fun e => ?_⟩
  · rw [if_pos e] at k
    refine ⟨fun e => ?_, fun e => ?_⟩
    · rw [if_pos e] at k
      refine ⟨fun e => ?_, fun e => ?_⟩
      · rw [if_pos e] at k
        refine ⟨fun e => ?_, fun e => ?_⟩
        · rw [if_pos e] at k
          exact k
        · rw [if_neg e] at k
          refine ⟨fun e => ?_, fun e => ?_⟩
          · rw [if_pos e] at k
            exact k
          · rw [if_neg e] at k
            exact k
      · rw [if_neg e] at k
        refine ⟨fun e => ?_, fun e => ?_⟩
        · rw [if_pos e] at k
          refine ⟨fun e => ?_, fun e => ?_⟩
          · rw [if_pos e] at k
            exact k
          · rw [if_neg e] at k
            refine ⟨fun e => ?_, fun e => ?_⟩
            · rw [if_pos e] at k
              exact k
            · rw [if_neg e] at k
              exact k
        · rw [if_neg e] at k
          exact k
    · rw [if_neg e] at k
      refine ⟨fun e => ?_, fun e => ?_⟩
      · rw [if_pos e] at k
        refine ⟨fun e => ?_, fun e => ?_⟩
        · rw [if_pos e] at k
          refine ⟨fun e => ?_, fun e => ?_⟩
          · rw [if_pos e] at k
            exact k
          · rw [if_neg e] at k
            refine ⟨fun e => ?_, fun e => ?_⟩
            · rw [if_pos e] at k
              exact k
            · rw [if_neg e] at k
              exact k
        · rw [if_neg e] at k
          refine ⟨fun e => ?_, fun e => ?_⟩
          · rw [if_pos e] at k
            refine ⟨fun e => ?_, fun e => ?_⟩
            · rw [if_pos e] at k
              exact k
            · rw [if_neg e] at k
              refine ⟨fun e => ?_, fun e => ?_⟩
              · rw [if_pos e] at k
                exact k
              · rw [if_neg e] at k
                exact k
          · rw [if_neg e] at k
            exact k
      · rw [if_neg e] at k
        exact k
  · rw [if_neg e] at k
    refine ⟨fun e => ?_, fun e => ?_⟩
    · rw [if_pos e] at k
      refine ⟨fun e => ?_, fun e => ?_⟩
      · rw [if_pos e] at k
        refine ⟨fun e => ?_, fun e => ?_⟩
        · rw [if_pos e] at k
          refine ⟨fun e => ?_, fun e => ?_⟩
          · rw [if_pos e] at k
            exact k
          · rw [if_neg e] at k
            refine ⟨fun e => ?_, fun e => ?_⟩
            · rw [if_pos e] at k
              exact k
            · rw [if_neg e] at k
              exact k
        · rw [if_neg e] at k
          refine ⟨fun e => ?_, fun e => ?_⟩
          · rw [if_pos e] at k
            refine ⟨fun e => ?_, fun e => ?_⟩
            · rw [if_pos e] at k
              exact k
            · rw [if_neg e] at k
              refine ⟨fun e => ?_, fun e => ?_⟩
              · rw [if_pos e] at k
                exact k
              · rw [if_neg e] at k
                exact k
          · rw [if_neg e] at k
            exact k
      · rw [if_neg e] at k
        refine ⟨fun e => ?_, fun e => ?_⟩
        · rw [if_pos e] at k
          refine ⟨fun e => ?_, fun e => ?_⟩
          · rw [if_pos e] at k
            refine ⟨fun e => ?_, fun e => ?_⟩
            · rw [if_pos e] at k
              exact k
            · rw [if_neg e] at k
              refine ⟨fun e => ?_, fun e => ?_⟩
              · rw [if_pos e] at k
                exact k
              · rw [if_neg e] at k
                exact k
          · rw [if_neg e] at k
            refine ⟨fun e => ?_, fun e => ?_⟩
            · rw [if_pos e] at k
              refine ⟨fun e => ?_, fun e => ?_⟩
              · rw [if_pos e] at k
                exact k
              · rw [if_neg e] at k
                refine ⟨fun e => ?_, fun e => ?_⟩
                · rw [if_pos e] at k
                  exact k
                · rw [if_neg e] at k
                  exact k
            · rw [if_neg e] at k
              exact k
        · rw [if_neg e] at k
          exact k
    · rw [if_neg e] at k
      exact k
def f104 (x1 : Int32) (x2 : Int32) : Int32 := (if x2 = (1 : Int32) then (if x1 < (128 : Int32) then (0 : Int32) else (1 : Int32)) else (if x2 = (2 : Int32) then (if x1 < (2048 : Int32) then (0 : Int32) else (if x1 < (55296 : Int32) then (1 : Int32) else (if x1 ≤ (57343 : Int32) then (0 : Int32) else (1 : Int32)))) else (if x2 = (3 : Int32) then (if x1 < (65536 : Int32) then (0 : Int32) else (if (1114111 : Int32) < x1 then (0 : Int32) else (1 : Int32))) else (1 : Int32))))
theorem p104 {C : Cx} {d : Nat} {Post : OutT → Ht → Prop} {t : Ht} {x1 : Int32} {x2 : Int32} (k : Post (.inl (some (svI (f104 x1 x2)))) t) : CalG C mtab (d + 1) 104 [svI x1, svI x2] t Post := by
  refine cal104 ?_
  unfold vc104
  unfold f104 at k
  refine ⟨fun e => ?_, fun e => ?_⟩
  · rw [if_pos e] at k
    refine ⟨fun e => ?_, fun e => ?_⟩
    · rw [if_pos e] at k
      exact ⟨Or.inl rfl, k⟩
    · rw [if_neg e] at k
      exact ⟨Or.inr rfl, k⟩
  · rw [if_neg e] at k
    refine ⟨fun e => ?_, fun e => ?_⟩
    · rw [if_pos e] at k
      refine ⟨fun e => ?_, fun e => ?_⟩
      · rw [if_pos e] at k
        exact ⟨Or.inl rfl, k⟩
      · rw [if_neg e] at k
        refine ⟨fun e => ?_, fun e => ?_⟩
        · rw [if_pos e] at k
          exact ⟨Or.inr rfl, k⟩
        · rw [if_neg e] at k
          refine ⟨fun e => ?_, fun e => ?_⟩
          · rw [if_pos e] at k
            exact ⟨Or.inl rfl, k⟩
          · rw [if_neg e] at k
            exact ⟨Or.inr rfl, k⟩
    · rw [if_neg e] at k
      refine ⟨fun e => ?_, fun e => ?_⟩
      · rw [if_pos e] at k
        refine ⟨fun e => ?_, fun e => ?_⟩
        · rw [if_pos e] at k
          exact ⟨Or.inl rfl, k⟩
        · rw [if_neg e] at k
          refine ⟨fun e => ?_, fun e => ?_⟩
          · rw [if_pos e] at k
            exact ⟨Or.inl rfl, k⟩
          · rw [if_neg e] at k
            exact ⟨Or.inr rfl, k⟩
      · rw [if_neg e] at k
        exact ⟨Or.inr rfl, k⟩
def f143 (x1 : Int32) : Int32 := (if x1 < (97 : Int32) then (0 : Int32) else (if (122 : Int32) < x1 then (0 : Int32) else (1 : Int32)))
theorem p143 {C : Cx} {d : Nat} {Post : OutT → Ht → Prop} {t : Ht} {x1 : Int32} (k : Post (.inl (some (svI (f143 x1)))) t) : CalG C mtab (d + 1) 143 [svI x1] t Post := by
  refine cal143 ?_
  unfold vc143
  unfold f143 at k
  refine ⟨fun e => ?_, fun e => ?_⟩
  · rw [if_pos e] at k
    exact ⟨Or.inl rfl, k⟩
  · rw [if_neg e] at k
    refine ⟨fun e => ?_, fun e => ?_⟩
    · rw [if_pos e] at k
      exact ⟨Or.inl rfl, k⟩
    · rw [if_neg e] at k
      exact ⟨Or.inr rfl, k⟩
def f145 (x1 : Int64) : Int32 := (if 0 < (lg_cmp x1 (9007199254740991 : Int64)) then (1 : Int32) else (if 0 ≤ (lg_cmp x1 (-9007199254740991 : Int64)) then (0 : Int32) else (1 : Int32)))
theorem p145 {C : Cx} {d : Nat} {Post : OutT → Ht → Prop} {t : Ht} {x1 : Int64} (k : Post (.inl (some (svI (f145 x1)))) t) : CalG C mtab (d + 1) 145 [svJ x1] t Post := by
  refine cal145 ?_
  unfold vc145
  unfold f145 at k
  refine ⟨fun e => ?_, fun e => ?_⟩
  · rw [if_pos e] at k
    exact ⟨Or.inr rfl, k⟩
  · rw [if_neg e] at k
    refine ⟨fun e => ?_, fun e => ?_⟩
    · rw [if_pos e] at k
      exact ⟨Or.inl rfl, k⟩
    · rw [if_neg e] at k
      exact ⟨Or.inr rfl, k⟩
def f162 (x1 : Int32) : Int32 := (if x1 < (97 : Int32) then (0 : Int32) else (if (122 : Int32) < x1 then (0 : Int32) else (1 : Int32)))
theorem p162 {C : Cx} {d : Nat} {Post : OutT → Ht → Prop} {t : Ht} {x1 : Int32} (k : Post (.inl (some (svI (f162 x1)))) t) : CalG C mtab (d + 1) 162 [svI x1] t Post := by
  refine cal162 ?_
  unfold vc162
  unfold f162 at k
  refine ⟨fun e => ?_, fun e => ?_⟩
  · rw [if_pos e] at k
    exact ⟨Or.inl rfl, k⟩
  · rw [if_neg e] at k
    refine ⟨fun e => ?_, fun e => ?_⟩
    · rw [if_pos e] at k
      exact ⟨Or.inl rfl, k⟩
    · rw [if_neg e] at k
      exact ⟨Or.inr rfl, k⟩
