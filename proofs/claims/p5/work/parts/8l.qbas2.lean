/-! readBasic -/
section QB6
variable {C : Cx} {d E : Nat} {Post : OutT → Ht → Prop} {t t1 t' : Ht} {qr r tp ch : Nat} {b : By} {n i o f : Nat} {L : LT}
theorem baQ_e : baQ b n f (orN b n f) (agN b n f) i L = if pk b n i = 33 then qOne 12 (if pk b n (sk b n (i + 1)) = 40 then grQ b n f (orN b n f) (sk b n (i + 1)) L else ngQ b n f (sk b n (i + 1)) L) else if pk b n i = 40 then grQ b n f (orN b n f) i L else (match opQ b n f (orN b n f) (agN b n f) false i L with
  | .inr e => .inr e
  | .inl (j, L', x) => bfQ b n f (orN b n f) (agN b n f) x i j L') := rfl
theorem KFm.neg {sp : Qs} (kk : KFm C qr r tp ch b n o 30 400 t i L (qOne 12 sp) Post) : KFm C qr r tp ch b n o 30 400 t i L sp (aftV (fun v57 t58 => rR v57 (fun x62 => onR x62 (fun a63 => tK t58 a63 = 11 ∧ br ((tI t58 a63 3) = 0) (onR x62 (fun a65 => tK t58 a65 = 11 ∧ ((1 : Int32) = 0 ∨ (1 : Int32) = 1) ∧ Post (.inl (some (svR x62))) (sI t58 a65 3 (1 : Int32)))) (onR x62 (fun a64 => tK t58 a64 = 11 ∧ ((0 : Int32) = 0 ∨ (0 : Int32) = 1) ∧ Post (.inl (some (svR x62))) (sI t58 a64 3 (0 : Int32))))))) (fun k59 q60 t61 => Post (.inr (k59, q60)) t61)) := by
  refine ⟨fun j L' x e t' a g1 g2 g3 g4 g5 g6 => ?_, fun w p e t' g1 g2 => kk.2 w p (by rw [e]; rfl) t' g1 g2⟩
  have na := g1.nk g4.1 (by omega)
  have fin : ∀ v : Int32, (tI t' a 3 = 0 → v = 1) → (¬ tI t' a 3 = 0 → v = 0) → Post (.inl (some (svR (some a)))) (sI t' a 3 v) := fun v h0 h1 => by
    have hs : ∀ z, z ≠ a → sameAt t' (sI t' a 3 v) z := fun z hz => sameAt_sI hz
    have c1 : tN (sI t' a 3 v) = tN t' := sIN
    have c2 : tU (sI t' a 3 v) = tU t' := sIU
    have c3 : tK (sI t' a 3 v) = tK t' := sIK
    have hfl : L'.1 = 0 → QR C (sI t' a 3 v) x 3 [] (rg (tN t) (tN t')) [a] true := fun z => QR.flip h0 h1 x 3 [] _ false (Or.inl ⟨rfl, (g3 z).2.1⟩) (g3 z).2.2
    revert hs c1 c2 c3 hfl
    generalize sI t' a 3 v = t2
    intro hs c1 c2 c3 hfl
    have hN' := g2.1
    refine kk.1 j L' (qT 12 x) (by rw [e]; rfl) t2 a (g1.old (by omega) (fun z _ hz => hs z (by rcases hz with rfl | rfl | rfl | rfl <;> (intro w; first | exact na.1 w.symm | exact na.2.1 w.symm | exact na.2.2.1 w.symm | exact na.2.2.2 w.symm)))) (g2.up (by omega) (fun z hz => hs z (by have := g4.2.1; omega))) (fun z => ⟨(g3 z).1, rfl, QR.mk (k := 12) (us := [a]) (av' := []) (F1 := rg (tN t) (tN t')) (by decide) (by decide) ⟨g4.2.1, by rw [c1]; exact g4.2.2⟩ (fun y hy => ⟨hy.1, by rw [c1]; exact hy.2⟩) ?_ (Or.inr (hfl z))⟩) ⟨by rw [c3]; exact g4.1, g4.2.1, by rw [c1]; exact g4.2.2⟩ g5 ?_
    · unfold HL
      rw [if_neg (by decide), if_neg (by decide), if_neg (by decide), if_pos rfl, if_neg (by decide), if_pos rfl]
      exact ⟨rfl, rfl, (g3 z).2.1⟩
    · unfold BG at g6 ⊢
      omega
  exact ⟨g4.1, fun e0 => ⟨g4.1, Or.inr rfl, fin 1 (fun _ => rfl) (fun z => absurd e0 z)⟩, fun e0 => ⟨g4.1, Or.inl rfl, fin 0 (fun z => absurd z e0) (fun _ => rfl)⟩⟩
set_option maxHeartbeats 1000000 in
theorem q66 (hf : f ≤ 16) (ih : ∀ e f0, f = f0 + 1 → P63 C qr r tp ch b n (E + e + 8) f0) (ih9 : ∀ e f0, f = f0 + 1 → P79 C qr r tp ch b n (E + e + 11) f0) (h : CQ t qr r tp ch b n i (16 - f) L) (kk : KFm C qr r tp ch b n (16 - f) 30 400 t i L (baQ b n f (orN b n f) (agN b n f) i L) Post) : CalG C mtab (E + 17) 66 [svR (some qr)] t Post := by
  have hv := h.2.2.1
  have hK := h.1.1.1
  have hat := h.1.1.2.2.2.2.2.1
  have hqN := h.2.2.2.1
  have hrN := h.1.2.2.2.2.2.1
  have hcN := h.1.2.2.2.2.1
  have htN := h.1.2.2.2.2.2.2
  have hin := h.2.1
  rw [baQ_e] at kk
  refine cal66 ⟨hv.1, onS hv.2.1 ⟨hK, r85 h.1.1 ⟨fun e33 => ⟨hv.1, onS hv.2.1 ⟨hK, onS hv.2.1 ⟨hK, ?_⟩⟩⟩, fun e33 => ⟨hv.1, onS hv.2.1 ⟨hK, r85 h.1.1 ⟨fun e40 => ⟨hv.1, ?_⟩, fun e40 => ⟨hv.1, ?_⟩⟩⟩⟩⟩⟩⟩
  · rw [if_pos e33] at kk
    have hlt := (pk_nn e33 (by decide)).1
    have hs := sk_le (b := b) (n := n) (i := i + 1) (by omega)
    have slo := sk_lo (b := b) (n := n) (i := i + 1)
    rw [hat, nI_1]
    have hC1 := h.to (j := i + 1) (by omega)
    have hX1 : QX qr r ch t (sI t r 4 (nI (i + 1))) := QX.rx (RX.I (Or.inr rfl))
    have c1 : tN (sI t r 4 (nI (i + 1))) = tN t := sIN
    have c2 : tU (sI t r 4 (nI (i + 1))) = tU t := sIU
    revert hC1 hX1 c1 c2
    generalize sI t r 4 (nI (i + 1)) = t1
    intro hC1 hX1 c1 c2
    have hv1 := hC1.2.2.1
    refine ⟨hv1.1, onS hv1.2.1 ⟨hC1.1.1.1, r87 hC1.1.1 hC1.2.1 ⟨rfl, ?_⟩⟩⟩
    have hC2 := hC1.to hs
    have hX2 : QX qr r ch t (sI t1 r 4 (nI (sk b n (i + 1)))) := hX1.trans (QX.rx (RX.I (Or.inr rfl)))
    have c3 : tN (sI t1 r 4 (nI (sk b n (i + 1)))) = tN t := by rw [sIN]; exact c1
    have c4 : tU (sI t1 r 4 (nI (sk b n (i + 1)))) = tU t := by rw [sIU]; exact c2
    revert hC2 hX2 c3 c4
    generalize sI t1 r 4 (nI (sk b n (i + 1))) = t2
    intro hC2 hX2 c3 c4
    have hv2 := hC2.2.2.1
    refine ⟨hv2.1, onS hv2.2.1 ⟨hC2.1.1.1, r85 hC2.1.1 ⟨fun e40 => ⟨hv2.1, ?_⟩, fun e40 => ⟨hv2.1, ?_⟩⟩⟩⟩
    · rw [if_pos e40] at kk
      exact q67 (E := E + 7) hf (ih 7) hC2 (pk_nn e40 (by decide)).1 (KFm.ofX kk.neg hX2 c3 c4 (by omega))
    · rw [if_neg e40] at kk
      exact q68 (E := E + 1) hf (ih 1) (ih9 1) hC2 (KFm.ofX kk.neg hX2 c3 c4 (by omega))
  · rw [if_neg e33, if_pos e40] at kk
    exact q67 (E := E + 7) hf (ih 7) h (pk_nn e40 (by decide)).1 (kk.imp (fun _ _ z => z) (fun _ z => z))
  · rw [if_neg e33, if_neg e40] at kk
    refine q74f (E := E + 2) (strict := false) hf (ih 2) (ih9 2) h ⟨fun j L' x e t' a g1 g2 g3 g4 g5 g6 g7 g8 => ?_, fun w p e t' hD hB => ?_⟩
    · rw [e] at kk
      exact ⟨g1.2.2.1.1, q69 (E := E) hf (ih 0) (ih9 0) (OH.mk g1 g2 g3 g4 g5 (opQ_k e) g6 g7 g8) hqN hrN hcN htN hin ((kk.x g2).imp (fun _ _ z => z) (fun _ z => z))⟩
    · rw [e] at kk
      refine kk.2 w p rfl t' hD ?_
      unfold BG at hB ⊢
      omega
end QB6
