/-! readWord -/
section QWD
variable {C : Cx} {d E : Nat} {Post : OutT → Ht → Prop} {t t1 t' : Ht} {qr r tp ch : Nat} {b : By} {n i o f : Nat} {L : LT}
theorem KO.ofX {sp : Qs} (h : KO C qr r tp ch b n o t i L sp Post) (hx : QX qr r ch t t1) (hN : tN t1 = tN t) (hU : tU t1 = tU t) : KO C qr r tp ch b n o t1 i L sp Post := by
  refine ⟨fun k L' x e t' a g1 g2 g3 g4 g5 g6 g7 g8 => ?_, fun w p e t' g1 g2 => ?_⟩
  · rw [hN] at g3 g6
    refine h.1 k L' x e t' a g1 (hx.trans g2) g3 g4 g5 g6 g7 ?_
    unfold BG at g8 ⊢
    omega
  · refine h.2 w p e t' (QD.of hx g1) ?_
    unfold BG at g2 ⊢
    omega
/-- a word so far -/
def WS (qr r tp ch : Nat) (b : By) (n o : Nat) (t t' : Ht) (i : Nat) (L : LT) (j : Nat) : Prop := CQ t' qr r tp ch b n j o L ∧ QX qr r ch t t' ∧ tN t' = tN t ∧ tU t' = tU t ∧ i ≤ j ∧ wdF b n (n - i) i = wdF b n (n - j) j
theorem wdF_e {j : Nat} (h : isWd b n j = false) : wdF b n (n - j) j = j := by
  cases hg : n - j with
  | zero => rfl
  | succ g => rw [wdF, h]; rfl
theorem isWd_o {j : Nat} (h : n ≤ j) : isWd b n j = false := by
  unfold isWd isSm dgt
  have : ¬ j < n := by omega
  simp [this, pkO h]
set_option maxHeartbeats 1000000 in
theorem q76 (hf : f ≤ 16) (ih : ∀ f0, f = f0 + 1 → P79 C qr r tp ch b n (E + 11) f0) (h : CQ t qr r tp ch b n i (16 - f) L) (hsm : isSm b n i = true) (kk : KO C qr r tp ch b n (16 - f) t i L (wrQ b n f (agN b n f) i L) Post) : CalG C mtab (E + 13) 76 [svR (some qr)] t Post := by
  have hqN := h.2.2.2.1
  have hrN := h.1.2.2.2.2.2.1
  have hcN := h.1.2.2.2.2.1
  have htN := h.1.2.2.2.2.2.2
  have hn : n ≤ 1200 := h.1.1.2.2.2.2.2.2.1
  have hb := h.1.1.2.2.2.2.2.2.2.2.1
  have hiw : isWd b n i = true := by unfold isWd; rw [hsm]; rfl
  have hv := h.2.2.1
  have hK := h.1.1.1
  have hii : i < n := by
    rcases Nat.lt_or_ge i n with z | z
    · exact z
    · rw [isWd_o z] at hiw; cases hiw
  refine cal76 (fun m l1 t' => l1 = nI i ∧ ∃ j, m = 3 * (n - j) + 3 ∧ WS qr r tp ch b n (16 - f) t t' i L j)
    (fun m l1 t' => l1 = nI i ∧ ∃ j, m = 3 * (n - j) + 2 ∧ WS qr r tp ch b n (16 - f) t t' i L j ∧ isWd b n j = true)
    (fun m l1 t' => m = 1 ∧ l1 = nI i ∧ ∃ j, WS qr r tp ch b n (16 - f) t t' i L j ∧ i < j ∧ j = wdF b n (n - i) i)
    (fun m l1 t' => m = 0 ∧ l1 = nI i ∧ ∃ j, WS qr r tp ch b n (16 - f) t t' i L j ∧ i < j ∧ wrQ b n f (agN b n f) i L = .inl (j, L, .tag 22 .nil)) ?_ ?_ ?_ ?_ ?_
  · refine ⟨hv.1, onS hv.2.1 ⟨hK, 3 * (n - i) + 3, rfl, h.1.1.2.2.2.2.2.1, i, rfl, h, QX.rfl', rfl, rfl, Nat.le_refl _, rfl⟩⟩
  · rintro m l1 t' ⟨rfl, j, rfl, hW⟩
    obtain ⟨hC, hX, hN, hU, hij, hwd⟩ := id hW
    have hv' := hC.2.2.1
    have hK' := hC.1.1.1
    have hjn := hC.2.1
    have out : isWd b n j = false → ∃ k, k < 3 * (n - j) + 3 ∧ some qr = some qr ∧ k = 1 ∧ nI i = nI i ∧ ∃ j, WS qr r tp ch b n (16 - f) t t' i L j ∧ i < j ∧ j = wdF b n (n - i) i := fun hz => by
      refine ⟨1, by omega, rfl, rfl, rfl, j, hW, ?_, ?_⟩
      · rcases Nat.lt_or_ge i j with z | z
        · exact z
        · have : j = i := by omega
          rw [this, hiw] at hz; cases hz
      · rw [hwd, wdF_e hz]
    have inn : isWd b n j = true → j < n → ∃ k, k < 3 * (n - j) + 3 ∧ some qr = some qr ∧ nI i = nI i ∧ ∃ j, k = 3 * (n - j) + 2 ∧ WS qr r tp ch b n (16 - f) t t' i L j ∧ isWd b n j = true := fun hz _ => ⟨3 * (n - j) + 2, by omega, rfl, rfl, j, rfl, hW, hz⟩
    refine ⟨hv'.1, onS hv'.2.1 ⟨hK', hv'.1, onS hv'.2.1 ⟨hK', ?_⟩⟩⟩
    rw [hC.1.1.2.2.2.2.1, hC.1.1.2.2.2.2.2.1]
    refine ⟨fun z => out (isWd_o ((nI_leI (by omega) (by omega)).mp z)), fun z => ⟨hv'.1, onS hv'.2.1 ⟨hK', r85 hC.1.1 (p143 ?_)⟩⟩⟩
    have hlt : j < n := Nat.not_le.mp (fun y => z (nI_le y (by omega)))
    show br (f143 (pk b n j) = 0) _ _
    rw [f143_p hb]
    cases hs : isSm b n j with
    | true => exact ⟨fun z => absurd z (by decide), fun _ => inn (by unfold isWd; rw [hs]; rfl) hlt⟩
    | false =>
      refine ⟨fun _ => ⟨hv'.1, onS hv'.2.1 ⟨hK', r85 hC.1.1 (d142 hb ?_)⟩⟩, fun z => absurd rfl z⟩
      cases hd : dgt b n j with
      | true => exact ⟨fun z => absurd z (by decide), fun _ => inn (by unfold isWd; rw [hs, hd]; rfl) hlt⟩
      | false =>
        refine ⟨fun _ => ⟨hv'.1, onS hv'.2.1 ⟨hK', r85 hC.1.1 ⟨fun e95 => inn (by unfold isWd; rw [hs, hd, decide_eq_true e95]; rfl) hlt, fun e95 => out (by unfold isWd; rw [hs, hd, decide_eq_false e95]; rfl)⟩⟩⟩, fun z => absurd rfl z⟩
  · rintro m l1 t' ⟨rfl, j, rfl, ⟨hC, hX, hN, hU, hij, hwd⟩, hz⟩
    have hv' := hC.2.2.1
    have hK' := hC.1.1.1
    have hlt : j < n := by
      rcases Nat.lt_or_ge j n with z | z
      · exact z
      · rw [isWd_o z] at hz; cases hz
    refine ⟨hv'.1, onS hv'.2.1 ⟨hK', onS hv'.2.1 ⟨hK', ?_⟩⟩⟩
    rw [hC.1.1.2.2.2.2.2.1, nI_1]
    refine ⟨3 * (n - (j + 1)) + 3, by omega, rfl, rfl, j + 1, rfl, hC.to (by omega), hX.trans (QX.rx (RX.I (Or.inr rfl))), hN, hU, by omega, ?_⟩
    rw [hwd, show n - j = (n - (j + 1)) + 1 by omega, wdF, hz]; rfl
  · rintro m l1 t' ⟨rfl, rfl, j, hW, hij, hj⟩
    obtain ⟨hC, hX, hN, hU, -, -⟩ := id hW
    have hv' := hC.2.2.1
    have hK' := hC.1.1.1
    have hjn := hC.2.1
    have hat := hC.1.1.2.2.2.2.2.1
    have hsp : wrQ b n f (agN b n f) i L = (if pk b n j = 40 then fnQ b n f (agN b n f) i j L else if isWrd b n i j 4 then .inl (j, L, qT 24 qN) else if isWrd b n i j 2 then .inl (j, L, qT 23 qN) else if isWrd b n i j 7 then .inl (j, L, qT 22 qN) else .inr (1, j)) := by
      unfold wrQ; rw [← hj]
    refine ⟨hv'.1, onS hv'.2.1 ⟨hK', r85 hC.1.1 ⟨fun e40 => ⟨hv'.1, ?_⟩, fun e40 => ⟨hv'.1, hv'.1, onS hv'.2.1 ⟨hK', onS hv'.2.1 ⟨hK', ?_⟩⟩⟩⟩⟩⟩
    · rw [if_pos e40] at hsp
      rw [hsp] at kk
      exact q77 (E := E) hf ih hC (pk_nn e40 (by decide)).1 hij ((KO.ofX kk hX hN hU).imp (fun _ _ z => z) (fun _ z => z))
    · rw [if_neg e40] at hsp
      rw [hat]
      refine r90 (m := 4) (by decide) hC.1.1 (by omega) (by omega) ⟨fun e => ⟨hv'.1, hv'.1, onS hv'.2.1 ⟨hK', onS hv'.2.1 ⟨hK', ?_⟩⟩⟩, fun e => ?_⟩
      · have e4 : isWrd b n i j 4 = false := bI_0.mp e
        rw [e4, if_neg (by decide)] at hsp
        rw [hat]
        refine r90 (m := 2) (by decide) hC.1.1 (by omega) (by omega) ⟨fun e => ⟨hv'.1, hv'.1, onS hv'.2.1 ⟨hK', onS hv'.2.1 ⟨hK', ?_⟩⟩⟩, fun e => ?_⟩
        · have e2 : isWrd b n i j 2 = false := bI_0.mp e
          rw [e2, if_neg (by decide)] at hsp
          rw [hat]
          refine r90 (m := 7) (by decide) hC.1.1 (by omega) (by omega) ⟨fun e => ⟨hv'.1, hv'.1, onS hv'.2.1 ⟨hK', onS hv'.2.1 ⟨hK', ?_⟩⟩⟩, fun e => ?_⟩
          · have e7 : isWrd b n i j 7 = false := bI_0.mp e
            rw [e7, if_neg (by decide)] at hsp
            refine hC.fl rfl hat (fun t7 hD hB => kk.2 1 j hsp t7 (QD.of hX hD) ?_)
            unfold BG at hB ⊢
            omega
          · have e7 : isWrd b n i j 7 = true := by
              cases z : isWrd b n i j 7 with
              | true => rfl
              | false => exact absurd (show bI (isWrd b n i j 7) = 0 by rw [z]; rfl) e
            rw [e7, if_pos rfl] at hsp
            exact ⟨0, by omega, rfl, rfl, rfl, j, hW, hij, hsp⟩
        · have e2 : isWrd b n i j 2 = true := by
            cases z : isWrd b n i j 2 with
            | true => rfl
            | false => exact absurd (show bI (isWrd b n i j 2) = 0 by rw [z]; rfl) e
          rw [e2, if_pos rfl] at hsp
          refine q75 (kd := 1) (by omega) (fun t2 hF => ?_)
          show Post (.inl (some (svR (some (tN t'))))) t2
          rw [hN]
          exact KO.word kk hsp (by omega) hC hX hN hU hF hij
      · have e4 : isWrd b n i j 4 = true := by
          cases z : isWrd b n i j 4 with
          | true => rfl
          | false => exact absurd (show bI (isWrd b n i j 4) = 0 by rw [z]; rfl) e
        rw [e4, if_pos rfl] at hsp
        refine q75 (kd := 0) (by omega) (fun t2 hF => ?_)
        show Post (.inl (some (svR (some (tN t'))))) t2
        rw [hN]
        exact KO.word kk hsp (by omega) hC hX hN hU hF hij
  · rintro m l1 t' ⟨rfl, rfl, j, ⟨hC, hX, hN, hU, -, -⟩, hij, hsp⟩
    refine q75 (kd := 2) (by omega) (fun t2 hF => ?_)
    show Post (.inl (some (svR (some (tN t'))))) t2
    rw [hN]
    exact KO.word kk hsp (by omega) hC hX hN hU hF hij
/-- an operand -/
theorem q74f {strict : Bool} (hf : f ≤ 16) (ih : ∀ f0, f = f0 + 1 → P63 C qr r tp ch b n (E + 8) f0) (ih9 : ∀ f0, f = f0 + 1 → P79 C qr r tp ch b n (E + 11) f0) (h : CQ t qr r tp ch b n i (16 - f) L) (kk : KO C qr r tp ch b n (16 - f) t i L (opQ b n f (orN b n f) (agN b n f) strict i L) Post) : CalG C mtab (E + 14) 74 [svR (some qr), svI (bI strict)] t Post :=
  q74 hf ih h (fun _ hs k => q76 (E := E) hf ih9 h hs k) kk
end QWD
