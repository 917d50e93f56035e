/-! literal, isWord, words, OF THE REFERENCE -/
def litQ (b : By) (n i : Nat) (L : LT) : Qs := if atStr b n i then (match stS b n (pk b n i) (i + 1) with
    | .inr p => .inr (1, p)
    | .inl (cs, j) => .inl (j, L, qT 21 (qC cs))) else (match inQ b n true i L with
    | .inr x => .inr x
    | .inl (j, L', m, N) => .inl (j, L', qT 20 (qI m N)))
section MQA
variable {C : Cx} {d E f : Nat} {Post : OutT → Ht → Prop} {t t1 t' : Ht} {M P : Nat} {b : By} {n i q c o i' q' c' o' : Nat} {L L' : LT} {X : List Nat}
theorem m197 {m fr : Nat} (hm : m < 10) (h : PS t M P b n i q c o L) (hfi : fr ≤ i) (k : Post (.inl (some (svI (bI (isWrd b n fr i m))))) t) : CalG C mtab (d + 5) 197 [svR (some M), svI (nI fr), svR (some (cS C m))] t Post := by
  have hl := txW_len m hm
  have hl20 := txW_lt m hm
  have hn := h.hn
  have hin := h.2.1
  have hk : isWrd b n fr i m = (decide (i - fr = (txW m).length) && wdB b n (txW m) fr) := rfl
  rw [hk] at k
  refine cal197 (fun k' l3 l4 t' => ∃ q, l4 = nI q ∧ t' = t ∧ ((l3 = 1 ∧ q ≤ (txW m).length ∧ k' = (txW m).length - q + 1 ∧ i - fr = (txW m).length ∧ wdB b n ((txW m).drop q) (fr + q) = wdB b n (txW m) fr) ∨ (l3 = 0 ∧ k' = 0 ∧ (decide (i - fr = (txW m).length) && wdB b n (txW m) fr) = false))) ?_ ?_
  · refine ⟨h.K, ⟨m, hm, rfl⟩, s254 hm ?_⟩
    rw [hl, h.at, pk_sub hfi]
    refine ⟨fun e => ⟨(txW m).length + 1, rfl, rfl, rfl, 0, rfl, rfl, Or.inl ⟨rfl, Nat.zero_le _, rfl, (nI_eq (by omega) (by omega)).mp e, rfl⟩⟩, fun e => ⟨0, rfl, rfl, rfl, 0, rfl, rfl, Or.inr ⟨rfl, rfl, ?_⟩⟩⟩
    have : ¬ i - fr = (txW m).length := fun z => e (by rw [z])
    simp [this]
  · rintro k' l3 l4 t' ⟨q, rfl, rfl, hc⟩
    refine ⟨fun e0 => ⟨Or.inl e0, ?_⟩, fun e0 => ?_⟩
    · rcases hc with ⟨rfl, -⟩ | ⟨rfl, -, hf⟩
      · exact absurd e0 (by decide)
      · rw [hf] at k; exact k
    · obtain ⟨rfl, hq, rfl, hgf, hw⟩ := hc.resolve_right (fun w => e0 w.1)
      refine ⟨⟨m, hm, rfl⟩, s254 hm ?_⟩
      rw [hl]
      refine ⟨fun e => ⟨Or.inr rfl, ?_⟩, fun e => ?_⟩
      · have hqe : q = (txW m).length := by
          rcases Nat.lt_or_ge q (txW m).length with z | z
          · exact absurd e (nI_ge z (by omega))
          · omega
        rw [hqe, List.drop_length] at hw
        rw [← hw] at k
        simp [hgf, wdB, bI] at k
        exact k
      · have hqe : q < (txW m).length := by
          rcases Nat.lt_or_ge q (txW m).length with z | z
          · exact z
          · exact absurd (nI_le z (by omega)) e
        have hdc := drop_c hqe
        refine ⟨h.K, ?_⟩
        rw [nI_add]
        refine m155 (by omega) h.1.1 ⟨⟨m, hm, rfl⟩, s255 hm (by omega) ⟨fun e2 => ?_, fun e2 => ?_⟩⟩
        · have e3 : pk b n (fr + q) = (txW m).getD q 0 := e2
          refine ⟨(txW m).length - (q + 1) + 1, by omega, rfl, rfl, rfl, q + 1, by rw [nI_1], rfl, Or.inl ⟨rfl, by omega, rfl, hgf, ?_⟩⟩
          rw [hdc, wdB] at hw
          simp [e3] at hw
          rw [← hw]; rfl
        · have e3 : ¬ pk b n (fr + q) = (txW m).getD q 0 := e2
          refine ⟨0, by omega, rfl, rfl, rfl, q + 1, by rw [nI_1], rfl, Or.inr ⟨rfl, rfl, ?_⟩⟩
          rw [hdc, wdB] at hw
          simp only [e3, decide_false, Bool.false_and] at hw
          rw [← hw]; simp
/-- a string as a literal -/
theorem mqStr {qt : Int32} (hqt : qt = 34 ∨ qt = 39) (h : PS t M P b n i q c o L) (hc : c ≤ 2 * i) (hpk : pk b n i = qt) (kk : KQ M P b n o [] 7 1 0 true false false t i q c L (litQ b n i L) Post) : CalG C mtab (d + 7) 181 [svR (some M), svI (21 : Int32)] t (aftV (fun v7 t8 => rI v7 (fun x12 => tK t8 M = 17 ∧ onR (tR t8 M 17) (fun a13 => tK t8 a13 = 14 ∧ tK t8 M = 17 ∧ CalG C mtab (d + 7) 169 [svR (some M)] t8 (aftV (fun v14 t15 => rI v14 (fun x19 => onR (tR t8 a13 1) (fun a20 => tK t15 a20 = 101 ∧ vp_in x12 (tL t15 a20) ∧ tK (sI t15 a20 (x12).toNatClampNeg x19) M = 17 ∧ onR (tR (sI t15 a20 (x12).toNatClampNeg x19) M 17) (fun a21 => tK (sI t15 a20 (x12).toNatClampNeg x19) a21 = 14 ∧ tK (sI t15 a20 (x12).toNatClampNeg x19) M = 17 ∧ tK (sI t15 a20 (x12).toNatClampNeg x19) M = 17 ∧ onR (tR (sI t15 a20 (x12).toNatClampNeg x19) M 17) (fun a22 => tK (sI t15 a20 (x12).toNatClampNeg x19) a22 = 14 ∧ onR (tR (sI t15 a20 (x12).toNatClampNeg x19) a22 1) (fun a23 => tK (sI t15 a20 (x12).toNatClampNeg x19) a23 = 101 ∧ vp_in x12 (tL (sI t15 a20 (x12).toNatClampNeg x19) a23) ∧ onR (tR (sI t15 a20 (x12).toNatClampNeg x19) a21 2) (fun a24 => tK (sI t15 a20 (x12).toNatClampNeg x19) a24 = 101 ∧ vp_in x12 (tL (sI t15 a20 (x12).toNatClampNeg x19) a24) ∧ Post (.inl (some (svI x12))) (sI (sI t15 a20 (x12).toNatClampNeg x19) a24 (x12).toNatClampNeg ((tI (sI t15 a20 (x12).toNatClampNeg x19) M 7) - (tI (sI t15 a20 (x12).toNatClampNeg x19) a23 (x12).toNatClampNeg)))))))))) (fun k16 q17 t18 => Post (.inr (k16, q17)) t18))))) (fun k9 q10 t11 => Post (.inr (k9, q10)) t11)) := by
  obtain ⟨k1, k2⟩ := kk
  have hn := h.hn
  have hP := h.2.2.1.1
  have hq := h.2.2.2.2.2.1
  have hb := h.1.1.2.2.2.2.2.2.2.2.2.2.1
  have hq0 : ¬ qt < 0 := by rcases hqt with rfl | rfl <;> decide
  have hlt : i < n := (pk_nn hpk hq0).1
  have v : vp_in (nI c) 2400 := vin h (by omega)
  have cl : (nI c).toNatClampNeg = c := nI_clamp (by omega)
  have hsp : litQ b n i L = match stS b n qt (i + 1) with
    | .inr p => .inr (1, p)
    | .inl (cs, j) => .inl (j, L, qT 21 (qC cs)) := by
    unfold litQ
    rw [if_pos (show atStr b n i = true by unfold atStr; rcases hqt with rfl | rfl <;> simp [hpk]), hpk]
  refine m181 h (by omega) (fun t2 g1 g2 g3 => ⟨g1.1.K, onS g1.1.r17 ⟨g1.1.k14, g1.1.K, m169 hqt g1.1.1 hlt hpk (by omega) (fun cs j es t3 hsm => onS g1.1.a1.1 ?_) (fun z es t3 hbm => ?_)⟩⟩)
  · rw [es] at hsp
    obtain ⟨s1, s2, s3, s4⟩ := stS_ok hb hn hq0 es
    obtain ⟨x1, x2, x3, x4⟩ := hsm
    have hG : GO M P b n [] t i q c t3 j (q + cs.length) (c + 1) o L := g1.x x1 x2 x3 (by omega) s2 (by omega) (by omega)
    have h3 := hG.1
    refine ⟨h3.a1.2.1, by rw [h3.a1.2.2]; exact v, h3.K, onS h3.r17 ⟨h3.k14, h3.K, h3.K, onS h3.r17 ⟨h3.k14, onS h3.a1.1 ⟨h3.a1.2.1, ?_, onS h3.a2.1 ⟨h3.a2.2.1, ?_, ?_⟩⟩⟩⟩⟩
    · show vp_in (nI c) (tL t3 (P + 2)); rw [h3.a1.2.2]; exact v
    · show vp_in (nI c) (tL t3 (P + 3)); rw [h3.a2.2.2]; exact v
    rw [cl, sI_at (by omega), x3, sI_eq, nI_subA]
    have xs := x1.2.2.2.2.2.2.1
    refine k1 j L _ hsp _ j _ (c + 1) c ((hG.I (Or.inl ⟨by omega, by omega, Or.inl (Nat.le_refl _)⟩)).I (Or.inl ⟨by omega, by omega, Or.inl (Nat.le_refl _)⟩)) ⟨by omega, Nat.le_refl _, rfl, fun z => by cases z⟩ (fun _ z => ⟨z, rfl, ?_⟩) ⟨fun z => by omega, fun _ => ⟨?_, fun p y ep => by cases ep⟩⟩ ⟨Nat.le_refl _, by omega, ?_⟩ (by omega) (fun z => by cases z)
    · refine QM.mk (m := 7) (k := 21) (us := []) (F1 := fun _ => False) (by decide) (by decide) (by decide) ⟨Nat.le_refl _, by omega⟩ (fun _ z => z.elim) (fun z => z) ?_ (Or.inl rfl)
      unfold HM
      rw [if_neg (by decide), if_neg (by decide), if_neg (by decide), if_neg (by decide), if_pos rfl, if_neg (by decide), if_pos rfl, unC_qC]
      refine ⟨?_, q, ?_, sI_eq, ⟨by omega, Nat.le_refl _, fun k hk => ?_⟩, s4⟩
      · rw [sI_at (by omega), sI_at (by omega), xs _ _ (by omega) (by omega) (by omega)]; exact g2.1
      · rw [sI_at (by omega)]; exact sI_eq
      · rw [sI_at (by omega), sI_at (by omega)]; exact x4 k hk
    · rw [sI_at (by omega), sI_at (by omega), xs _ _ (by omega) (by omega) (by omega)]; exact g2.1
    · rw [sI_at (by omega), sI_at (by omega), xs _ _ (by omega) (by omega) (by omega)]; exact g2.2.2.2.1
  · rw [es] at hsp
    exact k2 1 z (Or.inl hsp) t3 (FQ.of g1 (FQ.bm hbm hq.1))
/-- literal -/
theorem m195 (h : PS t M P b n i q c o L) (hc : c ≤ 2 * i) (hi : (atStr b n i || atInt b n i) = true) (kk : KQ M P b n o [] 7 1 0 true false false t i q c L (litQ b n i L) Post) : CalG C mtab (d + 8) 195 [svR (some M)] t Post := by
  have hn := h.hn
  have hP := h.2.2.1.1
  refine cal195 ⟨h.K, mqI h (fun e34 => ⟨fun z => absurd z (by decide), fun _ => ⟨h.K, mqStr (Or.inl rfl) h hc e34 kk⟩⟩) (fun e34 => ⟨fun _ => ⟨h.K, mqI h (fun e39 => ⟨fun z => absurd z (by decide), fun _ => ⟨h.K, mqStr (Or.inr rfl) h hc e39 kk⟩⟩) (fun e39 => ⟨fun _ => ⟨h.K, ?_⟩, fun z => absurd rfl z⟩)⟩, fun z => absurd rfl z⟩)⟩
  obtain ⟨k1, k2⟩ := kk
  have hns : ¬ atStr b n i = true := by unfold atStr; simp [e34, e39]
  have hai : atInt b n i = true := by
    cases hx : atStr b n i with
    | true => exact absurd hx hns
    | false => rw [hx] at hi; exact hi
  have hlt : i < n := by
    rcases Nat.lt_or_ge i n with w | w
    · exact w
    · unfold atInt dgt at hai
      rw [pkO w] at hai
      simp at hai
      omega
  obtain ⟨S, hsp⟩ : ∃ S, S = litQ b n i L := ⟨_, rfl⟩
  rw [← hsp] at k1 k2
  unfold litQ at hsp
  rw [if_neg hns] at hsp
  have v : vp_in (nI c) 2400 := vin h (by omega)
  have cl : (nI c).toNatClampNeg = c := nI_clamp (by omega)
  refine m181 h (by omega) (fun t2 g1 g2 g3 => ⟨g1.1.K, g1.1.K, mInt (mz := true) (K := fun _ t38 => onR (tR t38 M 17) (fun a42 => tK t38 a42 = 14 ∧ tK t38 M = 17 ∧ onR (tR t38 a42 5) (fun a43 => tK t38 a43 = 102 ∧ vp_in (nI c) (tL t38 a43) ∧ Post (.inl (some (svI (nI c)))) (sJ t38 a43 (nI c).toNatClampNeg (tJ t38 M 8))))) g1.1 (fun j L' m N e hij t3 r1 r2 r3 => ?_) (fun w p e t3 hF => k2 w p ?_ t3 (FQ.of g1 hF)) (fun _ z => z)⟩)
  · have h3 := r1.1
    rw [e] at hsp
    have sq := r1.sq (z := c) (by omega)
    refine onS h3.r17 ⟨h3.k14, h3.K, onS h3.a5.1 ⟨h3.a5.2.1, by rw [h3.a5.2.2]; exact v, ?_⟩⟩
    rw [cl]
    have k1' : tI t3 (P + 1) c = 20 := (sq.1.1 1 (by omega)).trans g2.1
    refine k1 j L' _ hsp _ j q (c + 1) c ((g1.trans r1 (fun z hz => by cases hz)).J ⟨by omega, by omega⟩ (Nat.le_refl _)) ⟨hij, Nat.le_refl _, rfl, fun z => by cases z⟩ (fun _ z => ⟨(r2 z).1, rfl, ?_⟩) ⟨fun z => by omega, fun _ => ⟨k1', fun p y ep => by cases ep⟩⟩ ⟨Nat.le_refl _, by omega, (sq.2 (by simp)).trans g2.2.2.2.1⟩ (by omega) (fun z => by cases z)
    refine QM.mk (m := 7) (k := 20) (us := []) (F1 := fun _ => False) (by decide) (by decide) (by decide) ⟨Nat.le_refl _, by omega⟩ (fun _ z => z.elim) (fun z => z) ?_ (Or.inl rfl)
    unfold HM
    rw [if_neg (by decide), if_neg (by decide), if_neg (by decide), if_neg (by decide), if_pos rfl, if_pos rfl, unI_qI]
    exact ⟨k1', sJ_eq.trans (r2 z).2⟩
  · rcases e with e | ⟨rfl, L2, m, N, e, e3⟩
    · rw [e] at hsp; exact Or.inl hsp
    · rw [e] at hsp
      exact Or.inr ⟨rfl, p, L2, _, hsp, (dgt_sk e3).1.symm, (fun z => by cases z), Or.inl e3, fun _ => e3⟩
end MQA
