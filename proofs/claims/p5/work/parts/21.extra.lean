/-! code tables of Math, of out and of the law -/
def plE : Pool := ([], [], [], [], [], [], [])
theorem plE_ok : PoolOK "java/lang/Math" plE mtab mt := pool_of fa_0 fa_0 fa_0 fa_0 fa_0 fa_0 fa_0
def k249 : Code1 := [(0, .lload_n 0, 1), (1, .lconst 0, 1), (2, .lcmp, 1), (3, .ifCond .ge 8, 3), (6, .lload_n 0, 1), (7, .lneg, 1), (8, .goto 4, 3), (11, .lload_n 0, 1), (12, .lreturn, 1)]
theorem k249_d : ∀ q ∈ k249, decode cJ9_abs_067f4 q.1 = .ok q.2 := by decide +kernel
def X249 : MT := (k249, plE, (some FieldType.long), false, [])
theorem X249_ok : CodeOK (Mof mE249) X249 := ⟨code_1 k249_d (by decide +kernel), rfl, fun h => absurd h (by decide), Or.inl ⟨rfl, rfl⟩, thr_0 (by decide +kernel)⟩
def k250 : Code1 := [(0, .iload_n 0, 1), (1, .iload_n 1, 1), (2, .if_icmp .lt 7, 3), (5, .iload_n 0, 1), (6, .goto 4, 3), (9, .iload_n 1, 1), (10, .ireturn, 1)]
theorem k250_d : ∀ q ∈ k250, decode cJ9_max_7cf53 q.1 = .ok q.2 := by decide +kernel
def X250 : MT := (k250, plE, (some FieldType.int), false, [])
theorem X250_ok : CodeOK (Mof mE250) X250 := ⟨code_1 k250_d (by decide +kernel), rfl, fun h => absurd h (by decide), Or.inl ⟨rfl, rfl⟩, thr_0 (by decide +kernel)⟩
def k251 : Code1 := [(0, .lload_n 0, 1), (1, .lload_n 2, 1), (2, .lcmp, 1), (3, .ifCond .lt 7, 3), (6, .lload_n 0, 1), (7, .goto 4, 3), (10, .lload_n 2, 1), (11, .lreturn, 1)]
theorem k251_d : ∀ q ∈ k251, decode cJ9_max_f86c9 q.1 = .ok q.2 := by decide +kernel
def X251 : MT := (k251, plE, (some FieldType.long), false, [])
theorem X251_ok : CodeOK (Mof mE251) X251 := ⟨code_1 k251_d (by decide +kernel), rfl, fun h => absurd h (by decide), Or.inl ⟨rfl, rfl⟩, thr_0 (by decide +kernel)⟩
def k252 : Code1 := [(0, .iload_n 0, 1), (1, .iload_n 1, 1), (2, .if_icmp .gt 7, 3), (5, .iload_n 0, 1), (6, .goto 4, 3), (9, .iload_n 1, 1), (10, .ireturn, 1)]
theorem k252_d : ∀ q ∈ k252, decode cJ9_min_7cf53 q.1 = .ok q.2 := by decide +kernel
def X252 : MT := (k252, plE, (some FieldType.int), false, [])
theorem X252_ok : CodeOK (Mof mE252) X252 := ⟨code_1 k252_d (by decide +kernel), rfl, fun h => absurd h (by decide), Or.inl ⟨rfl, rfl⟩, thr_0 (by decide +kernel)⟩
def k253 : Code1 := [(0, .lload_n 0, 1), (1, .lload_n 2, 1), (2, .lcmp, 1), (3, .ifCond .gt 7, 3), (6, .lload_n 0, 1), (7, .goto 4, 3), (10, .lload_n 2, 1), (11, .lreturn, 1)]
theorem k253_d : ∀ q ∈ k253, decode cJ9_min_f86c9 q.1 = .ok q.2 := by decide +kernel
def X253 : MT := (k253, plE, (some FieldType.long), false, [])
theorem X253_ok : CodeOK (Mof mE253) X253 := ⟨code_1 k253_d (by decide +kernel), rfl, fun h => absurd h (by decide), Or.inl ⟨rfl, rfl⟩, thr_0 (by decide +kernel)⟩
def k138 : Code1 := [(0, .aload_n 0, 1), (1, .getfield 48, 3), (4, .iload_n 1, 1), (5, .invokevirtual 136, 3), (8, .ifCond .ne 13, 3), (11, .new 139, 3), (14, .dup, 1), (15, .ldc 141, 2), (17, .invokespecial 143, 3), (20, .athrow, 1), (21, .aload_n 0, 1), (22, .getfield 48, 3), (25, .iload_n 1, 1), (26, .invokevirtual 146, 3), (29, .ireturn, 1)]
theorem k138_d : ∀ q ∈ k138, decode cX11_out q.1 = .ok q.2 := by decide +kernel
def pl11n : Pool := (pl11.1, pl11.2.1, pl11.2.2.1.filter (fun e => !(e.2 == 202)), pl11.2.2.2)
theorem pl11n_ok : PoolOK "PathHouse" pl11n mtab mt := pool_of pl11_f pl11_m (fun e he => pl11_k e (List.mem_filter.mp he).1) pl11_i pl11_j pl11_s pl11_g
def X138 : MT := (k138, pl11n, (some FieldType.int), false, [])
theorem X138_ok : CodeOK (Mof mE138) X138 := ⟨code_1 k138_d (by decide +kernel), rfl, fun h => absurd h (by decide), Or.inl ⟨rfl, rfl⟩, thr_0 (by decide +kernel)⟩
theorem twn138 : TWn (Mof mE138) 139 141 143 0 "OUT has no such byte" := ⟨gw (tw6 (i := 57) rfl) rfl, gw (tw1 (i := 34) rfl) rfl, by decide +kernel, by decide +kernel, by decide +kernel, by decide +kernel⟩
theorem wg138 {C : Cx} {d : Nat} {t0 t : Ht} {Q : OutT → Ht → Prop} {lv : LV} (h : Q (.inr (202, 0)) (tNew t 0 0 6)) : WG C (Mof mE138) (d + 1) t0 Q 11 lv [] t := by
  refine ⟨_, _, h, Nat.le_succ _, Nat.le_add_right _ _, ?_⟩
  have g := gd_throwN (C := C) (M := Mof mE138) (h0 := tv t0) (h := tv t) (fr := frD (d + 1)) (lo := loD (d + 1)) (lv := lv.map fv) (st := []) (f := fun k => dV (slN 0 k)) twn138 (by intro q hq; cases hq) (by unfold frD; omega) (by unfold loD; omega) (by decide) (k138_d (11, _, _) (by simp [k138])) (k138_d (14, _, _) (by simp [k138])) (k138_d (15, _, _) (by simp [k138])) (k138_d (17, _, _) (by simp [k138])) (k138_d (20, _, _) (by simp [k138]))
  rw [hNew_tv (f := fun k => dV (slN 0 k)) (fun k => rfl)] at g
  exact g
