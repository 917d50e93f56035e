/-! ARRAYLIST -/
section AL
variable {C : Cx} {d : Nat} {Post : OutT → Ht → Prop} {t : Ht} {a : Nat}
theorem gd_lenE {M : Mi} {h0 h h' : Hp} {fr lo g : Nat} {o' : Out} {pc : Nat} {lv : List (Nat × Value)} {st : List Value} (hg : cG C 2 = some g) (hdg : decode M.2.2.1 pc = .ok (.arraylength, 1)) (kk : Gd C M fr lo h0 o' h' (pc + 1) lv (.int 0 :: st) h) : Gd C M fr lo h0 o' h' pc lv (.ref g :: st) h := by
  intro p e s m args below meth c H locs ls hc hR0 hR hn hu hq hl
  obtain ⟨-, -, -, -, ⟨a, ha, hT⟩, -⟩ := hc.2.2.2.2.2.2.2.2.2.2.2.2.2.2.2.2.2
  cases Option.some.inj (hg.symm.trans ha)
  exact va_tlen hc.1 hc.2.1 (hT.kept (H1 := s.heap) (gd_old hR0)) (gd_sS hR0 hR hn hq) rfl hdg (kk p e s m args below meth c H locs ls hc hR0 hR hn hu hq hl)
theorem gd_noE {M : Mi} {h0 h h' : Hp} {fr lo : Nat} {o' : Out} {pc : Nat} {lv : List (Nat × Value)} {st : List Value} (hg : cG C 2 = none) : Gd C M fr lo h0 o' h' pc lv st h := by
  intro p e s m args below meth c H locs ls hc hR0 hR hn hu hq hl
  obtain ⟨-, -, -, -, ⟨a, ha, hT⟩, -⟩ := hc.2.2.2.2.2.2.2.2.2.2.2.2.2.2.2.2.2
  rw [hg] at ha
  cases ha
theorem s264 (k : Post (.inl none) t) : CalG C mtab (d + 1) 264 [svR (some a)] t Post := cal264 k
theorem s265 (hk : tK t a = 1) (k : Post (.inl none) (sI t a 0 0)) : CalG C mtab (d + 2) 265 [svR (some a)] t Post := cal265 (s264 ⟨rfl, hk, k⟩)
/-- new ArrayList() -/
theorem s266 (hk : tK t a = 1) (k : Post (.inl none) (sR (sI t a 0 0) a 1 (cG C 2))) : CalG C mtab (d + 3) 266 [svR (some a)] t Post := cal266 (s265 hk ⟨rfl, hk, k⟩)
theorem c250 {x y : Int32} (h : Post (.inl (some (svI (if x < y then y else x)))) t) : CalG C mtab (d + 1) 250 [svI x, svI y] t Post := by
  refine cal250 ⟨fun e => ?_, fun e => ?_⟩
  · rw [if_pos e] at h; exact h
  · rw [if_neg e] at h; exact h
set_option maxRecDepth 20000 in
theorem s267a (ha : a < tN t) (hk : tK t a = 1) (hr : tR t a 1 = cG C 2) (k : Post (.inl (some (svR (some (tN t))))) (sR (tNew t 103 10 10) a 1 (some (tN t)))) : CalG C mtab (d + 2) 267 [svR (some a), svI 1] t Post := by
  have hne : ¬ a = tN t := by omega
  refine cal_WG mo267 (Nat.le_of_ble_eq_true rfl) ?_
  cases hg : cG C 2 with
  | none => exact ⟨_, _, k, by show tN t ≤ tN t + 1; omega, by show tU t ≤ tU t + 10; omega, gd_noE hg⟩
  | some g =>
    refine wseg (X := X267) [4] 4 pj5_ok X267_ok ?_
    refine ⟨hk, ?_⟩
    show WG C (Mof mE267) (d + 1 + 1) t Post 4 _ [svR (tR t a 1)] t
    rw [hr, hg]
    refine wg_gd 5 [svI 0] (fun o' h' z => gd_lenE hg (k267_d (4, .arraylength, 1) (by simp [k267])) z) ?_
    refine wseg (X := X267) [17] 10 pj5_ok X267_ok ?_
    refine ⟨fun e => absurd e (by decide), fun _ => ⟨hk, ?_⟩⟩
    show WG C (Mof mE267) (d + 1 + 1) t Post 17 _ [svR (cG C 2), svR (tR t a 1)] t
    rw [hr]
    refine wg_step (pc' := 45) (st' := []) (fun hx hb _ z => lv_acmp_eq (rx := cG C 2) (ry := cG C 2) (rest := []) (tgt := 45) hx hb kx267 rfl (fun _ => z) (fun q => absurd rfl q)) ?_
    refine wseg (X := X267) [55] 8 pj5_ok X267_ok ?_
    refine c250 ⟨by decide, by decide, ?_⟩
    show WG C (Mof mE267) (d + 1 + 1) t Post 55 _ [svR (some (tN t)), svR (some a)] (tNew t 103 10 10)
    refine wg_step (pc' := 56) (st' := [svR (some (tN t)), svR (some a), svR (some (tN t))]) (fun hx hb _ z => lv_dup_x1 hx hb (k267_d (55, .dup_x1, 1) (by simp [k267])) rfl rfl z) ?_
    refine wseg (X := X267) [] 3 pj5_ok X267_ok ?_
    exact ⟨by simp [ht, hne, hk], k⟩
theorem s278 {c : Nat} (hc : 10 ≤ c) (hc2 : c ≤ 30000000) (k : Post (.inl (some (svI (nI (c + c / 2))))) t) : CalG C mtab (d + 2) 278 [svI (nI c), svI 1, svI (nI (c / 2))] t Post := by
  refine cal278 (c250 ?_)
  have e1 : (1 : Int32) < nI (c / 2) := nI_lt (a := 1) (by omega) (by omega)
  rw [if_pos e1]
  have e2 : nI c + nI (c / 2) = nI (c + c / 2) := nI_add _ _
  refine ⟨fun e => ?_, fun _ => ⟨fun e => ?_, fun _ => ?_⟩⟩
  · rw [e2] at e; exact absurd e (nI_ge (a := 0) (by omega) (by omega))
  · rw [e2] at e; exact absurd e (nI_nlt (b := c + c / 2) (a := 2147483639) (by omega) (by decide))
  · rw [e2]; exact k
theorem nI_dif (c : Nat) : nI (c + 1) - nI c = 1 := by
  rw [nI_succ, Int32.add_comm, Int32.add_sub_cancel]
set_option maxRecDepth 20000 in
theorem s267b {e c : Nat} (ha : a < tN t) (hk : tK t a = 1) (hr : tR t a 1 = some e) (he : e < tN t) (hke : tK t e = 103) (hl : tL t e = c) (hc : 10 ≤ c) (hc2 : c ≤ 30000000) (hel : ∀ j, j < c → ∃ y, tR t e j = some y ∧ y < tN t ∧ kE (tK t y))
    (k : Post (.inl (some (svR (some (tN t))))) (sR (cpR (tNew t 103 (c + c / 2) (c + c / 2)) e (tN t) c) a 1 (some (tN t)))) : CalG C mtab (d + 4) 267 [svR (some a), svI (nI (c + 1))] t Post := by
  have hne : ¬ a = tN t := by omega
  refine cal_WG mo267 (Nat.le_of_ble_eq_true rfl) ?_
  refine wseg (X := X267) [40] 26 pj5_ok X267_ok ?_
  refine ⟨hk, ?_⟩
  rw [show rdS t a 1 (tyN (fTy 0 1)) = svR (some e) from congrArg svR hr]
  refine ⟨by rw [hke]; decide, by rw [hke]; decide, fun _ => ?_, fun q => absurd (nI_lt (a := 0) (b := tL t e) (by omega) (by omega)) q⟩
  rw [hl]
  have e1 := pk_shrN (n := c) (by omega) ((1 : Int32) &&& 31) 1 (by decide)
  show CalG C mtab (d + 3) 278 [svI (nI c), svI (nI (c + 1) - nI c), svI (nI c >>> ((1 : Int32) &&& 31))] t _
  rw [show nI c >>> ((1 : Int32) &&& 31) = nI (c / 2) from e1, nI_dif]
  refine s278 hc hc2 ⟨hk, ?_⟩
  show CalG C mtab (d + 3) 274 [svR (tR t a 1), svI (nI (c + c / 2))] t _
  rw [hr]
  refine s274 he hke (by omega) (by omega) (fun j hj => hel j (by omega)) ?_
  rw [hl]
  show WG C (Mof mE267) (d + 3 + 1) t Post 40 _ [svR (some (tN t)), svR (some a)] (cpR (tNew t 103 (c + c / 2) (c + c / 2)) e (tN t) c)
  refine wg_step (pc' := 41) (st' := [svR (some (tN t)), svR (some a), svR (some (tN t))]) (fun hx hb _ z => lv_dup_x1 hx hb (k267_d (40, .dup_x1, 1) (by simp [k267])) rfl rfl z) ?_
  refine wseg (X := X267) [] 3 pj5_ok X267_ok ?_
  refine ⟨?_, k⟩
  show tK (tNew t 103 (c + c / 2) (c + c / 2)) a = 1
  simp [ht, hne, hk]
end AL
