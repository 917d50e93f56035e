/-! STRING CONSTANTS: length and charAt -/
section STR
variable {C : Cx} {M : Mi} {h0 h h' : Hp} {fr lo : Nat} {o' : Out} {pc : Nat} {lv : List (Nat × Value)} {st : List Value}
theorem gd_sS {s : State} {H : Heap} {locs : List Loc} (hR0 : Rel C h0 s.heap) (hR : Rel C h H) (hn : hN h0 ≤ hN h) (hq : ∀ l ∈ locs, cB C ≤ l.base) : va_S (fun z => cB C ≤ z) s.heap H locs :=
  ⟨by rw [hR0.1, hR.1]; exact hn, fun q h1 h2 => by rw [hR0.2.2.1 q (Nat.not_le.mp h2)]; exact hR.2.2.1 q (Nat.not_le.mp h2), hq⟩
theorem gd_old {s : State} (hR0 : Rel C h0 s.heap) : ∀ a : Nat, a < (cH C).size → ¬ cB C ≤ a → s.heap[a]? = (cH C)[a]? := fun a _ ha => hR0.2.2.1 a (Nat.not_le.mp ha)
theorem gd_strF {idx n : Nat} (hn10 : n < 10) (hlink : Cond.fieldLink M.1 idx "java/lang/String" "value" "[B" ∈ gW) (hdg : decode M.2.2.1 pc = .ok (.getfield idx, 3)) (kk : Gd C M fr lo h0 o' h' (pc + 3) lv (.ref (cS C (n + 10)) :: st) h) : Gd C M fr lo h0 o' h' pc lv (.ref (cS C n) :: st) h := by
  intro p e s m args below meth c H locs ls hc hR0 hR hn hu hq hl
  obtain ⟨-, -, hS, -⟩ := hc.2.2.2.2.2.2.2.2.2.2.2.2.2.2.2.2.2
  obtain ⟨-, -, hV, -⟩ := hS.1 n hn10
  exact vk_getf hc.1 hc.2.1 (hV.kept (H1 := s.heap) (gd_old hR0)) (gd_sS hR0 hR hn hq) hc.2.2.2.2.2.2.1 (hc.2.2.2.2.2.2.2.2.1 _ hlink args) (fun _ z => z) hdg (kk p e s m args below meth c H locs ls hc hR0 hR hn hu hq hl)
theorem gd_strC {idx n : Nat} (hn10 : n < 10) (hlink : Cond.fieldLink M.1 idx "java/lang/String" "coder" "B" ∈ gW) (hdg : decode M.2.2.1 pc = .ok (.getfield idx, 3)) (kk : Gd C M fr lo h0 o' h' (pc + 3) lv (.int 0 :: st) h) : Gd C M fr lo h0 o' h' pc lv (.ref (cS C n) :: st) h := by
  intro p e s m args below meth c H locs ls hc hR0 hR hn hu hq hl
  obtain ⟨-, -, hS, -⟩ := hc.2.2.2.2.2.2.2.2.2.2.2.2.2.2.2.2.2
  obtain ⟨-, hV, -, -⟩ := hS.1 n hn10
  exact vk_getf hc.1 hc.2.1 (hV.kept (H1 := s.heap) (gd_old hR0)) (gd_sS hR0 hR hn hq) hc.2.2.2.2.2.2.1 (hc.2.2.2.2.2.2.2.2.1 _ hlink args) (fun _ z => z) hdg (kk p e s m args below meth c H locs ls hc hR0 hR hn hu hq hl)
theorem gd_strL {n : Nat} (hn10 : n < 10) (hdg : decode M.2.2.1 pc = .ok (.arraylength, 1)) (kk : Gd C M fr lo h0 o' h' (pc + 1) lv (.int (nI (lenTx.getD n 0)) :: st) h) : Gd C M fr lo h0 o' h' pc lv (.ref (cS C (n + 10)) :: st) h := by
  intro p e s m args below meth c H locs ls hc hR0 hR hn hu hq hl
  obtain ⟨-, -, hS, -⟩ := hc.2.2.2.2.2.2.2.2.2.2.2.2.2.2.2.2.2
  obtain ⟨-, -, -, hT⟩ := hS.1 n hn10
  exact va_tlen hc.1 hc.2.1 (hT.kept (H1 := s.heap) (gd_old hR0)) (gd_sS hR0 hR hn hq) rfl hdg (kk p e s m args below meth c H locs ls hc hR0 hR hn hu hq hl)
theorem gd_strB {n : Nat} {i : Int32} (hn10 : n < 10) (hi : vp_in i (lenTx.getD n 0)) (hdg : decode M.2.2.1 pc = .ok (.baload, 1)) (kk : Gd C M fr lo h0 o' h' (pc + 1) lv (.int ((bytTx.getD n []).getD i.toNatClampNeg 0) :: st) h) : Gd C M fr lo h0 o' h' pc lv (.int i :: .ref (cS C (n + 10)) :: st) h := by
  intro p e s m args below meth c H locs ls hc hR0 hR hn hu hq hl
  obtain ⟨-, -, hS, -⟩ := hc.2.2.2.2.2.2.2.2.2.2.2.2.2.2.2.2.2
  obtain ⟨-, -, -, hT⟩ := hS.1 n hn10
  exact va_tb hc.1 hc.2.1 (hT.kept (H1 := s.heap) (gd_old hR0)) (gd_sS hR0 hR hn hq) hi rfl hdg (kk p e s m args below meth c H locs ls hc hR0 hR hn hu hq hl)
theorem gd_getZ {idx : Nat} (hlink : Cond.fieldLink M.1 idx "java/lang/String" "COMPACT_STRINGS" "Z" ∈ gW) (hdg : decode M.2.2.1 pc = .ok (.getstatic idx, 3)) (kk : Gd C M fr lo h0 o' h' (pc + 3) lv (.int 1 :: st) h) : Gd C M fr lo h0 o' h' pc lv st h := by
  intro p e s m args below meth c H locs ls hc hR0 hR hn hu hq hl
  obtain ⟨-, -, -, hZ, -⟩ := hc.2.2.2.2.2.2.2.2.2.2.2.2.2.2.2.2.2
  exact va_gets hc.1 hc.2.1 (hZ.kept (H1 := s.heap) (gd_old hR0)) (gd_sS hR0 hR hn hq) hc.2.2.2.2.2.2.1 (hc.2.2.2.2.2.2.2.2.1 _ hlink args) (fun _ z => z) hdg (kk p e s m args below meth c H locs ls hc hR0 hR hn hu hq hl)
end STR
section STW
variable {C : Cx} {d j : Nat} {M : Mi} {q : ME} {X : MT} {as : List SV} {t t0 : Ht} {Q Post : OutT → Ht → Prop} {pc pc' : Nat} {lv : LV} {st st' : List SV} {cut : List Nat}
theorem wg_gd (pc' : Nat) (st' : List SV) (f : ∀ (o' : Out) (h' : Hp), Gd C M (frD d) (loD d) (tv t0) o' h' pc' (lv.map fv) (st'.map vv) (tv t) → Gd C M (frD d) (loD d) (tv t0) o' h' pc (lv.map fv) (st.map vv) (tv t)) (k : WG C M d t0 Q pc' lv st' t) : WG C M d t0 Q pc lv st t := by
  obtain ⟨o, t', a, b, c, g⟩ := k
  exact ⟨o, t', a, b, c, f _ _ g⟩
theorem wseg (cut : List Nat) (N : Nat) (hP : PoolOK M.1 X.2.1 mtab mt) (hC : CodeOK M X) (h : wpc (CalG C mtab d) mt (cS C) (cG C) none X Q cut (fun pc lv st t' => WG C M (d + 1) t0 Q pc lv st t') N pc lv st t) : WG C M (d + 1) t0 Q pc lv st t :=
  wpc_sound hP hC (fun _ hz => by cases hz) (fun _ _ _ _ _ h => h) N pc lv st t h
theorem cal_WG (h : MOF j q X) (hsz : wgt as ≤ q.2.2.2.1) (hw : WG C (Mof q) d t Post 0 (largs 0 as) [] t) : CalG C mtab d j as t Post := by
  obtain ⟨o, t1, a1, a2, a3, a4⟩ := hw
  rw [← largs_map] at a4
  exact ⟨q, h.1, o, t1, a1, a2, a3, CM_ofF h.2.1 h.2.2.1 (by rw [lg_sl_len]; exact hsz) a4⟩
end STW
theorem mo254 : MOF 254 mE254 X254 := ⟨rfl, by decide +kernel, mK254.1.1, pj0_ok, X254_ok⟩
theorem mo255 : MOF 255 mE255 X255 := ⟨rfl, by decide +kernel, mK255.1.1, pj0_ok, X255_ok⟩
theorem mo256 : MOF 256 mE256 X256 := ⟨rfl, by decide +kernel, mK256.1.1, pj0_ok, X256_ok⟩
theorem mo257 : MOF 257 mE257 X257 := ⟨rfl, by decide +kernel, mK257.1.1, pj0_ok, X257_ok⟩
theorem mo259 : MOF 259 mE259 X259 := ⟨rfl, by decide +kernel, mK259.1.1, pj1_ok, X259_ok⟩
section STC
variable {C : Cx} {d : Nat} {Post : OutT → Ht → Prop} {t : Ht} {n : Nat}
theorem s256 (hn : n < 10) (k : Post (.inl (some (svI 0))) t) : CalG C mtab (d + 1) 256 [svR (some (cS C n))] t Post := by
  refine cal_WG mo256 (Nat.le_of_ble_eq_true rfl) ?_
  refine wg_gd 3 [svI 1] (fun o' h' g => gd_getZ (idx := 38) (gw (tw2 (i := 175) rfl) rfl) (k256_d (0, .getstatic 38, 3) (by simp [k256])) g) ?_
  refine wseg (X := X256) [7] 4 pj0_ok X256_ok ?_
  refine ⟨fun e => absurd e (by decide), fun _ => ?_⟩
  show WG C (Mof mE256) (d + 1) t Post 7 _ [svR (some (cS C n))] t
  refine wg_gd 10 [svI 0] (fun o' h' g => gd_strC hn (gw (tw9 (i := 45) rfl) rfl) (k256_d (7, .getfield 15, 3) (by simp [k256])) g) ?_
  refine wseg (X := X256) [14] 4 pj0_ok X256_ok ?_
  show WG C (Mof mE256) (d + 1) t Post 14 _ [svI 0] t
  exact ⟨_, _, k, Nat.le_refl _, Nat.le_refl _, gd_iret rfl rfl (k256_d (14, .ireturn, 1) (by simp [k256]))⟩
theorem s257 (hn : n < 10) (k : Post (.inl (some (svI 1))) t) : CalG C mtab (d + 1) 257 [svR (some (cS C n))] t Post := by
  refine cal_WG mo257 (Nat.le_of_ble_eq_true rfl) ?_
  refine wg_gd 3 [svI 1] (fun o' h' g => gd_getZ (idx := 38) (gw (tw2 (i := 175) rfl) rfl) (k257_d (0, .getstatic 38, 3) (by simp [k257])) g) ?_
  refine wseg (X := X257) [7] 4 pj0_ok X257_ok ?_
  refine ⟨fun e => absurd e (by decide), fun _ => ?_⟩
  show WG C (Mof mE257) (d + 1) t Post 7 _ [svR (some (cS C n))] t
  refine wg_gd 10 [svI 0] (fun o' h' g => gd_strC hn (gw (tw9 (i := 45) rfl) rfl) (k257_d (7, .getfield 15, 3) (by simp [k257])) g) ?_
  refine wseg (X := X257) [] 8 pj0_ok X257_ok ?_
  exact ⟨fun _ => ⟨Or.inr rfl, k⟩, fun e => absurd rfl e⟩
theorem lenTx_sh : ∀ n, n < 10 → nI (lenTx.getD n 0) >>> ((0 : Int32) &&& 31) = nI (lenTx.getD n 0) := by decide
/-- String.length -/
theorem s254 (hn : n < 10) (k : Post (.inl (some (svI (nI (lenTx.getD n 0))))) t) : CalG C mtab (d + 2) 254 [svR (some (cS C n))] t Post := by
  refine cal_WG mo254 (Nat.le_of_ble_eq_true rfl) ?_
  refine wseg (X := X254) [1] 3 pj0_ok X254_ok ?_
  show WG C (Mof mE254) (d + 1 + 1) t Post 1 _ [svR (some (cS C n))] t
  refine wg_gd 4 [svR (some (cS C (n + 10)))] (fun o' h' g => gd_strF hn (gw (tw9 (i := 44) rfl) rfl) (k254_d (1, .getfield 9, 3) (by simp [k254])) g) ?_
  refine wg_gd 5 [svI (nI (lenTx.getD n 0))] (fun o' h' g => gd_strL hn (k254_d (4, .arraylength, 1) (by simp [k254])) g) ?_
  refine wseg (X := X254) [] 6 pj0_ok X254_ok ?_
  refine ⟨⟨n, hn, rfl⟩, s256 hn ?_⟩
  show Post (.inl (some (svI (nI (lenTx.getD n 0) >>> ((0 : Int32) &&& 31))))) t
  rw [lenTx_sh n hn]
  exact k
theorem s280 {i m : Nat} {r : Option Nat} (h : i < m) (hm : m < 2 ^ 31) (k : Post (.inl (some (svI (nI i)))) t) : CalG C mtab (d + 1) 280 [svI (nI i), svI (nI m), svR r] t Post :=
  cal280 ⟨fun e => absurd e (nI_pos (by omega)), fun _ => ⟨fun _ => k, fun e => absurd (nI_lt h hm) e⟩⟩
theorem s258 {i m : Nat} (h : i < m) (hm : m < 2 ^ 31) (k : Post (.inl none) t) : CalG C mtab (d + 2) 258 [svI (nI i), svI (nI m)] t Post := cal258 (s280 h hm k)
def chT (n k : Nat) : Int32 := (bytTx.getD n []).getD k 0
theorem chT_c : ∀ n, n < 10 → ∀ k, k < lenTx.getD n 0 → ((chT n k &&& 255).toUInt32 % 65536).toInt32 = chT n k ∧ narrow .char (.int (chT n k)) = .int (chT n k) := by decide +kernel
theorem lenTx_lt : ∀ n, n < 10 → lenTx.getD n 0 < 2 ^ 31 := by decide
theorem s259 {k : Nat} (hn : n < 10) (hk : k < lenTx.getD n 0) (kk : Post (.inl (some (svI (chT n k)))) t) : CalG C mtab (d + 3) 259 [svR (some (cS C (n + 10))), svI (nI k)] t Post := by
  have hl := lenTx_lt n hn
  refine cal_WG mo259 (Nat.le_of_ble_eq_true rfl) ?_
  refine wseg (X := X259) [2] 4 pj1_ok X259_ok ?_
  show WG C (Mof mE259) (d + 2 + 1) t Post 2 _ [svR (some (cS C (n + 10))), svI (nI k)] t
  refine wg_gd 3 [svI (nI (lenTx.getD n 0)), svI (nI k)] (fun o' h' g => gd_strL hn (k259_d (2, .arraylength, 1) (by simp [k259])) g) ?_
  refine wseg (X := X259) [8] 6 pj1_ok X259_ok ?_
  refine s258 hk hl ⟨rfl, ?_⟩
  show WG C (Mof mE259) (d + 2 + 1) t Post 8 _ [svI (nI k), svR (some (cS C (n + 10)))] t
  refine wg_gd 9 [svI (chT n k)] (fun o' h' g => gd_strB hn (vp_in_nI hk hl) (k259_d (8, .baload, 1) (by simp [k259])) (by rw [nI_clamp (by omega)]; exact g)) ?_
  refine wseg (X := X259) [13] 6 pj1_ok X259_ok ?_
  show WG C (Mof mE259) (d + 2 + 1) t Post 13 _ [svI (chT n k &&& 255)] t
  obtain ⟨e1, e2⟩ := chT_c n hn k hk
  refine wg_step (st' := [svI (chT n k)]) (fun hx hb _ z => lv_i2c hx hb (k259_d (13, .i2c, 1) (by simp [k259])) e1 z) ?_
  exact ⟨_, _, kk, Nat.le_refl _, Nat.le_refl _, gd_iret rfl e2 (k259_d (14, .ireturn, 1) (by simp [k259]))⟩
/-- String.charAt -/
theorem s255 {k : Nat} (hn : n < 10) (hk : k < lenTx.getD n 0) (kk : Post (.inl (some (svI (chT n k)))) t) : CalG C mtab (d + 4) 255 [svR (some (cS C n)), svI (nI k)] t Post := by
  refine cal_WG mo255 (Nat.le_of_ble_eq_true rfl) ?_
  refine wseg (X := X255) [8] 6 pj0_ok X255_ok ?_
  refine ⟨⟨n, hn, rfl⟩, s257 hn ⟨fun e => absurd e (by decide), fun _ => ?_⟩⟩
  show WG C (Mof mE255) (d + 3 + 1) t Post 8 _ [svR (some (cS C n))] t
  refine wg_gd 11 [svR (some (cS C (n + 10)))] (fun o' h' g => gd_strF hn (gw (tw9 (i := 44) rfl) rfl) (k255_d (8, .getfield 9, 3) (by simp [k255])) g) ?_
  refine wseg (X := X255) [15] 6 pj0_ok X255_ok ?_
  refine s259 hn hk ?_
  show WG C (Mof mE255) (d + 3 + 1) t Post 15 _ [svI (chT n k)] t
  exact ⟨_, _, kk, Nat.le_refl _, Nat.le_refl _, gd_iret rfl (chT_c n hn k hk).2 (k255_d (15, .ireturn, 1) (by simp [k255]))⟩
end STC
