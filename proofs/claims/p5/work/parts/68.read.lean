/-! A NODE IS MADE AND READ, by the component -/
/-- the entry of a value whose rest is not read yet -/
def ePen (k : Nat) (u : Option Nat) (d c : Nat) : Ent := ((k, u, d, 0), ([], none, none), (if k = 4 then [0] else [], c))
theorem ePen_ne {k d c : Nat} {u : Option Nat} (h : k ≠ 4) : ePen k u d c = eMk k u d 0 [] c := by unfold ePen eMk; rw [if_neg h]
theorem ePen_c {k d c : Nat} {u : Option Nat} : cOf (ePen k u d c) = none := by
  unfold cOf
  by_cases h : k = 4
  · have e1 : eK (ePen k u d c) = 4 := h
    have e2 : ¬ eS (ePen k u d c) = [] := by
      show ¬ (if k = 4 then [0] else []) = []
      rw [if_pos h]; simp
    rw [if_pos e1, if_neg e2]
  · exact if_neg h
theorem s10.trans {t t1 t2 : Ht} {x : Nat} (h : s10 t t1 x) (g : s10 t1 t2 x) : s10 t t2 x := ⟨g.1.trans h.1, g.2.1.trans h.2.1, fun k => (g.2.2.1 k).trans (h.2.2.1 k), fun k => (g.2.2.2.1 k).trans (h.2.2.2.1 k), fun k z => (g.2.2.2.2 k z).trans (h.2.2.2.2 k z)⟩
theorem up1_up1 {α : Type} {f : Nat → α} {a : Nat} {x y : α} : up1 (up1 f a x) a y = up1 f a y := by
  funext z
  unfold up1
  by_cases e : z = a
  · rw [if_pos e, if_pos e]
  · rw [if_neg e, if_neg e, if_neg e]
theorem up1_self {α : Type} {f : Nat → α} {a : Nat} {x : α} (h : f a = x) : up1 f a x = f := by
  funext z
  unfold up1
  by_cases e : z = a
  · rw [if_pos e, e, h]
  · rw [if_neg e]
theorem nI_s1 (x : Nat) : nI (x + 1) - 1 = nI x := by
  have := nI_dif x
  rw [← nI_1]; exact Int32.add_sub_cancel _ _
theorem kdB_4 : ∀ x, x < 256 → kdB (nI x) = some 4 → nI x = 34 := by decide +kernel
section RN
variable {C : Cx} {E f p : Nat} {Post : OutT → Ht → Prop} {t0 t t' : Ht} {vr r tp ch : Nat} {b : By} {n i : Nat} {G : GT} {V : VT} {c : Nat}
set_option maxHeartbeats 400000 in
theorem CV.made {k dp : Nat} {u : Option Nat} {t2 t5 : Ht} (h : CV C t0 t vr r tp ch b n i G V c) (hc : c < 300) (hk : k < 7) (hdp : dp ≤ 30) (hu : ∀ p, u = some p → p < c) (hF : FN C t t2 k dp c (u.map (gA G))) (hN : tN t5 = tN t2)
    (hs : ∀ x, x ≠ vr → (∀ q, c = q + 1 → x ≠ gA G q) → sameAt t2 t5 x) (hl : ∀ q, c = q + 1 → s10 t2 t5 (gA G q) ∧ tR t5 (gA G q) 10 = some (tN t)) (hv1 : tK t5 vr = tK t2 vr) (hv2 : tL t5 vr = tL t2 vr) (hv3 : ∀ k, tJ t5 vr k = tJ t2 vr k) (hv4 : ∀ k, k ≠ 1 → tI t5 vr k = tI t2 vr k) (hv5 : tI t5 vr 1 = nI (c + 1)) (hv6 : ∀ k, k ≠ 2 → tR t5 vr k = tR t2 vr k) (hv7 : tR t5 vr 2 = some (tN t)) :
    CV C t0 t5 vr r tp ch b n i (up1 G c (tN t, tN t + 1, 0, 0)) (up1 V c (ePen k u dp c)) (c + 1) ∧ A1 (tN t0) t t5 := by
  obtain ⟨n1, n2, n3, n4⟩ := h.ne
  obtain ⟨hB, hi, ⟨v1, v2, v3, v4⟩, ⟨o1, o2, o3, o4⟩, hVF, hV, f1, f2⟩ := h
  have hTN := hVF.1
  have hN2 : tN t + 1 ≤ tN t2 ∧ (5 ≤ k → tN t + 2 = tN t2) := by
    rcases hF.2.2.2 with ⟨q1, q2, -⟩ | ⟨q1, q2, -⟩
    · exact ⟨by omega, fun z => by omega⟩
    · exact ⟨by omega, fun _ => by omega⟩
  have hgq : ∀ q, c = q + 1 → tN t0 ≤ gA G q ∧ gA G q < tN t ∧ tK t (gA G q) = 3 := fun q hq => (hV.1 q (by omega)).1.1
  have s5 : ∀ x, x < tN t → x ≠ vr → (∀ q, c = q + 1 → x ≠ gA G q) → sameAt t t5 x := fun x x1 x2 x3 => (hF.1 x x1).trans (hs x x2 x3)
  have hold : ∀ x, x < tN t0 → x ≠ vr → sameAt t t5 x := fun x x1 x2 => s5 x (by omega) x2 (fun q hq e => by have := (hgq q hq).1; omega)
  have hnew : ∀ x, tN t ≤ x → sameAt t2 t5 x := fun x x1 => hs x (by omega) (fun q hq e => by have := (hgq q hq).2.1; omega)
  have sn := hnew (tN t) (Nat.le_refl _)
  have hself := up1_eq (f := V) (a := c) (x := ePen k u dp c)
  have hselfG := up1_eq (f := G) (a := c) (x := (tN t, tN t + 1, 0, 0))
  have hum : u.map (gA (up1 G c (tN t, tN t + 1, 0, 0))) = u.map (gA G) := by
    cases hu' : u with
    | none => rfl
    | some z =>
      have := hu z hu'
      show some (gA _ z) = some (gA G z)
      unfold gA; rw [up1_ne (by omega)]
  have eA : gA (up1 G c (tN t, tN t + 1, 0, 0)) c = tN t := by unfold gA; rw [hselfG]
  have eK' : gK (up1 G c (tN t, tN t + 1, 0, 0)) c = tN t + 1 := by unfold gK; rw [hselfG]
  have eE' : gE (up1 G c (tN t, tN t + 1, 0, 0)) c = 0 := by unfold gE; rw [hselfG]
  have eC' : gC (up1 G c (tN t, tN t + 1, 0, 0)) c = 0 := by unfold gC; rw [hselfG]
  obtain ⟨z0, ⟨a1, a2, a3, a4, a5, a6⟩, ⟨b1, b2, b3, b4, b5⟩, hcs⟩ := hF
  have hNE : NE C (tN t0) t5 (up1 G c (tN t, tN t + 1, 0, 0)) (up1 V c (ePen k u dp c)) c := by
    unfold NE
    rw [hself, eA, eK', eE', eC', ePen_c]
    refine ⟨⟨hTN, by omega, sn.1.trans a1⟩, ⟨(sn.2.2.1 0).trans a2, ?_, (sn.2.2.1 2).trans a4, (sn.2.2.1 3).trans a5, (sn.2.2.2.1 5).trans a6⟩, ⟨(sn.2.2.2.2 6).trans b1, (sn.2.2.2.2 7).trans b2, (sn.2.2.1 8).trans b3, (sn.2.2.1 9).trans b4⟩, fun z => ?_, fun z => ?_⟩
    · show tR t5 (tN t) 1 = u.map _
      rw [hum]; exact (sn.2.2.2.2 1).trans a3
    · have z' : k < 5 := z
      rcases hcs with ⟨-, -, -, q4⟩ | ⟨q1, -⟩
      · exact (sn.2.2.2.2 4).trans q4
      · omega
    · have z' : 5 ≤ k := z
      rcases hcs with ⟨q1, -⟩ | ⟨-, q2, -, q4, q5⟩
      · omega
      · have hes : (eS (ePen k u dp c)).map (gA (up1 G c (tN t, tN t + 1, 0, 0))) = [] := by
          show (if k = 4 then [0] else []).map _ = []
          rw [if_neg (by omega)]; rfl
        rw [hes]
        exact ⟨(sn.2.2.2.2 4).trans q4, q5.frame (by omega) (hnew _ (by omega)) (fun y => absurd y (Nat.lt_irrefl _)), by omega, fun y => absurd y (Nat.lt_irrefl _), by omega⟩
  have hVW : VW (up1 V c (ePen k u dp c)) (c + 1) c := by
    unfold VW
    rw [hself]
    refine ⟨hk, hdp, hu, fun y hy => ?_, ?_, hc, ⟨by show 0 ≤ 1200; omega, fun x hx => by cases hx⟩, fun cs hcs => by cases hcs⟩
    · have hy' : y ∈ (if k = 4 then [0] else []) := hy
      by_cases e : k = 4
      · rw [if_pos e] at hy'
        have := List.mem_singleton.mp hy'
        exact ⟨fun z => absurd z (by show ¬ 5 ≤ k; omega), by omega⟩
      · rw [if_neg e] at hy'; cases hy'
    · show (if k = 4 then [0] else []).length ≤ c + 1
      split
      · show 1 ≤ c + 1; omega
      · show 0 ≤ c + 1; omega
  have hNV := hV.new (t' := t5) (G' := up1 G c (tN t, tN t + 1, 0, 0)) (V' := up1 V c (ePen k u dp c)) hc (by omega) (fun x x1 x2 x3 => s5 x x2 (by omega) x3) (fun q hq => ⟨((z0 _ (hgq q hq).2.1).s10).trans (hl q hq).1, by rw [(hl q hq).2, eA]⟩) (fun j hj => up1_ne (by omega)) (fun j hj => up1_ne (by omega)) hNE hVW (by rw [eA]; exact (sn.2.2.2.2 10).trans b5) (fun _ => by rw [eK']; omega) eC'
  have sr := hold r o2 (fun e => n1 e.symm)
  have st := hold tp o4 (fun e => n4 e.symm)
  have sc := hold ch o3 (fun e => n2 e.symm)
  have sv2 := z0 vr (by omega)
  obtain ⟨⟨g1, g2, g3, g4, g5, g6, g7, g8, g9, g10⟩, g11, g12, g13, g14, g15, g16⟩ := hB
  refine ⟨⟨⟨⟨sr.1.trans g1, (sr.2.2.2.2 0).trans g2, st.1.trans g3, st.2.1.trans g4, (sr.2.2.1 3).trans g5, (sr.2.2.1 4).trans g6, g7, g8, g9, fun k hk => by rw [st.2.2.1 k]; exact g10 k hk⟩, (sr.2.2.2.2 1).trans g11, sc.1.trans g12, sc.2.1.trans g13, by omega, by omega, by omega⟩, hi, ⟨hv1.trans (sv2.1.trans v1), (hv6 0 (by decide)).trans ((sv2.2.2.2.2 0).trans v2), hv5, ?_⟩, ⟨o1, o2, o3, o4⟩, ⟨by omega, fun x hx => ?_⟩, hNV, (sr.2.2.1 5).trans f1, (sr.2.2.1 6).trans f2⟩, by omega, fun x x1 x2 x3 => s5 x x2 (by omega) (fun q hq e => by rw [e, (hgq q hq).2.2] at x3; cases x3)⟩
  · rw [hv7, if_neg (by omega), show c + 1 - 1 = c by omega, eA]
  · obtain ⟨w1, w2, w3, w4, w5⟩ := hVF.2 x hx
    by_cases e : x = vr
    · subst e
      refine ⟨hv1.trans (sv2.1.trans w1), hv2.trans (sv2.2.1.trans w2), fun k => (hv3 k).trans ((sv2.2.2.2.1 k).trans (w3 k)), fun k z => ?_, fun k z1 z2 z3 => ?_⟩
      · have hk2 : k ≠ 2 := by rcases z with z | z; exact absurd rfl z; exact z
        exact (hv6 k hk2).trans ((sv2.2.2.2.2 k).trans (w4 k z))
      · have hk2 : k ≠ 1 := by rcases z3 with z | z; exact absurd rfl z; exact z
        exact (hv4 k hk2).trans ((sv2.2.2.1 k).trans (w5 k z1 z2 z3))
    · have sx := hold x hx e
      exact ⟨sx.1.trans w1, sx.2.1.trans w2, fun k => (sx.2.2.2.1 k).trans (w3 k), fun k z => (sx.2.2.2.2 k).trans (w4 k z), fun k z1 z2 z3 => (sx.2.2.1 k).trans (w5 k z1 z2 z3)⟩
/-- a slot of the node p is written: its number, its characters or its last -/
theorem NV.slot {e' : Ent} (h : NV C (tN t0) t G V c) (hp : p < c) (hN : tN t' = tN t) (hs : ∀ x, x ≠ gA G p → sameAt t t' x) (hK : tK t' (gA G p) = tK t (gA G p)) (hI : ∀ k, k ≠ 9 → tI t' (gA G p) k = tI t (gA G p) k) (hR : ∀ k, k ≠ 6 → tR t' (gA G p) k = tR t (gA G p) k)
    (e1 : eK e' = eK (V p)) (e2 : eU e' = eU (V p)) (e3 : eD e' = eD (V p)) (e4 : eN e' = eN (V p)) (e5 : eX e' = eX (V p)) (e6 : 5 ≤ eK (V p) → eS e' = eS (V p)) (q1 : tJ t' (gA G p) 5 = eJ e') (q2 : chR t' (tN t0) (tR t' (gA G p) 6) (cOf e')) (q3 : tI t' (gA G p) 9 = nI (eL e')) (q4 : okC (eC e')) (q5 : eK (V p) < 5 → eS e' = eS (V p) ∨ eS e' = []) : NV C (tN t0) t' G (up1 V p e') c := by
  obtain ⟨nq, wq, xq⟩ := h.1 p hp
  obtain ⟨⟨a1, a2, a3⟩, ⟨b1, b2, b3, b4, b5⟩, ⟨c1, c2, c3, c4⟩, d1, d2⟩ := nq
  obtain ⟨w1, w2, w3, w4, w5, w6, w7, w8⟩ := wq
  have h101 : ∀ x, tN t0 ≤ x → x < tN t → tK t x = 101 → sameAt t t' x := fun x _ _ z => hs x (fun e => by rw [e, a3] at z; cases z)
  have hself := up1_eq (f := V) (a := p) (x := e')
  have hes : ∀ y ∈ eS e', y ∈ eS (V p) := fun y hy => by
    by_cases z : 5 ≤ eK (V p)
    · rw [e6 z] at hy; exact hy
    · rcases q5 (by omega) with q | q
      · rw [q] at hy; exact hy
      · rw [q] at hy; cases hy
  have hesl : (eS e').length ≤ (eS (V p)).length := by
    by_cases z : 5 ≤ eK (V p)
    · rw [e6 z]; exact Nat.le_refl _
    · rcases q5 (by omega) with q | q
      · rw [q]; exact Nat.le_refl _
      · rw [q]; exact Nat.zero_le _
  refine h.upd hp (by omega) (fun x _ _ hx _ => hs x hx) (fun j hj => up1_ne hj) (fun _ _ => rfl) rfl ?_ ?_ (hR 10 (by decide)) (by rw [hself]; exact e1) (fun _ => rfl) (fun _ z => Or.inl ⟨z, rfl⟩)
  · unfold NE
    rw [hself, e1, e2, e3, e4, e5]
    refine ⟨⟨a1, by omega, hK.trans a3⟩, ⟨(hI 0 (by decide)).trans b1, (hR 1 (by decide)).trans b2, (hI 2 (by decide)).trans b3, (hI 3 (by decide)).trans b4, q1⟩, ⟨q2, ?_, (hI 8 (by decide)).trans c3, q3⟩, fun z => (hR 4 (by decide)).trans (d1 z), fun z => ?_⟩
    · rw [hR 7 (by decide)]; exact c2.frame (by omega) h101
    · obtain ⟨y1, y2, y3, y4, y5⟩ := d2 z
      rw [e6 z]
      refine ⟨(hR 4 (by decide)).trans y1, y2.frame (by omega) (hs _ (fun e => ?_)) (fun y => hs _ (fun e => ?_)), y3, y4, y5⟩
      · have := y2.1; rw [e, a3] at this; cases this
      · rcases y2.2.2.2.2.2 with ⟨q1, -⟩ | ⟨-, -, -, -, q5, -, -⟩
        · omega
        · rw [e, a3] at q5; cases q5
  · unfold VW; rw [hself, e1, e2, e3, e4]
    exact ⟨w1, w2, w3, fun k hk => w4 k (hes k hk), by omega, w6, q4, w8⟩
theorem CV.slot {e' : Ent} (h : CV C t0 t vr r tp ch b n i G V c) (hp : p < c) (hN : tN t' = tN t) (hs : ∀ x, x ≠ gA G p → sameAt t t' x) (hV : NV C (tN t0) t' G (up1 V p e') c) : CV C t0 t' vr r tp ch b n i G (up1 V p e') c ∧ A1 (tN t0) t t' := by
  have hg := (h.2.2.2.2.2.1.1 p hp).1.1
  refine ⟨h.old (by omega) (fun x hx => hs x (by omega)) hV (fun _ _ => rfl), by omega, fun x _ _ x3 => hs x (fun e => by rw [e, hg.2.2] at x3; cases x3)⟩
theorem CV.flq {q : Nat} (h : CV C t0 t vr r tp ch b n i G V c) : FV vr r ch t0 (flP t r q) 1 q ∧ tN (flP t r q) = tN t + 1 ∧ tU (flP t r q) = tU t + 6 := h.bad (w := 1) (p := q) (RX.I (r := r) (ch := ch) (x := nI q) (Or.inr rfl)) rfl rfl
set_option maxHeartbeats 800000 in
/-- readRest -/
theorem r122 {k : Nat} {u : Option Nat} (ih : P120 C t0 vr r tp ch b n (E + 8) f) (ih' : P120 C t0 vr r tp ch b n (E + 9) f) (h : CV C t0 t vr r tp ch b n i G V (p + 1)) (hi : i < n) (hV : V p = ePen k u (30 - f) p) (hf : f < 30) (hkd : kdB (pk b n i) = some k) {L : Rs} (hL : L = rsS b n (wnS b n true) (vaS b n (wnS b n true) f (some p)) k i p (up1 V p (eMk k u (30 - f) 0 [] p)))
    (k1 : ∀ j c' V', L = .inl (j, c', V') → ∀ t' G', CV C t0 t' vr r tp ch b n j G' V' c' → (∀ x, x < p + 1 → gA G' x = gA G x) → A1 (tN t0) t t' → tN t' + 4 ≤ tN t + 8 * (j - i) → tU t' + 494 ≤ tU t + 600 * (j - i) → Post (.inl none) t')
    (k2 : ∀ w q, L = .inr (w, q) → ∀ t', FV vr r ch t0 t' w q → tN t' + 2 ≤ tN t + 8 * (n + 1 - i) → tU t' + 14 ≤ tU t + 600 * (n + 1 - i) → Post (.inr (200, 0)) t') : CalG C mtab (E + 11) 122 [svR (some vr), svR (some (gA G p))] t Post := by
  have hn : n ≤ 1200 := h.1.1.2.2.2.2.2.2.1
  have hb := h.1.1.2.2.2.2.2.2.2.2.1
  have hK := h.1.1.1
  have hv := h.2.2.1
  have hrT := h.2.2.2.1.2.1
  have hcT := h.2.2.2.1.2.2.1
  have hTN := h.2.2.2.2.1.1
  obtain ⟨hk7, -⟩ : k < 7 ∧ True := ⟨(kdB_lt hb hkd).2, trivial⟩
  obtain ⟨np, wp, -⟩ := h.2.2.2.2.2.1.1 p (by omega)
  have hKp := np.1.2.2
  have hk0 : tI t (gA G p) 0 = nI k := by rw [np.2.1.1, hV]; rfl
  have hV0 : k ≠ 4 → up1 V p (eMk k u (30 - f) 0 [] p) = V := fun z => up1_self (by rw [hV, ePen_ne z])
  have word : ∀ m, m < 10 → 0 < (txW m).length → L = (match wdS b n (txW m) i with
      | .inr p => .inr (1, p)
      | .inl j => .inl (j, p + 1, V)) → CalG C mtab (E + 10) 89 [svR (some r), svR (some (cS C m))] t (aftV (fun v40 t41 => v40 = none ∧ Post (.inl none) t41) (fun k42 q43 t44 => Post (.inr (k42, q43)) t44)) := by
    intro m hm hlen hL'
    refine r89 hm h.1.1 h.2.1 (fun j e => ⟨rfl, ?_⟩) (fun q e => ?_)
    · rw [e] at hL'
      obtain ⟨l1, l2⟩ := wdS_le _ _ _ (txW_nn _ hm) h.2.1 e
      refine k1 _ _ _ hL' _ G (h.to l2) (fun _ _ => rfl) (A1.at hrT) ?_ ?_
      · show tN t + 4 ≤ _; omega
      · show tU t + 494 ≤ _; omega
    · rw [e] at hL'
      obtain ⟨g1, g2, g3⟩ := h.flq (q := q)
      exact k2 _ _ hL' _ g1 (by omega) (by omega)
  refine cal122 ?_
  unfold vc122
  rw [hv.2.1]
  refine ⟨hKp, ?_⟩
  rw [hk0]
  have hkc : k = 0 ∨ k = 1 ∨ k = 2 ∨ k = 3 ∨ k = 4 ∨ k = 5 ∨ k = 6 := by omega
  unfold rsS at hL
  rcases hkc with rfl | rfl | rfl | rfl | rfl | rfl | rfl
  · rw [if_pos (by decide), hV0 (by decide)] at hL
    exact ⟨fun _ => ⟨hv.1, hK, word 4 (by decide) (by decide) hL⟩, fun e => absurd rfl e⟩
  · rw [if_pos (by decide), hV0 (by decide)] at hL
    exact ⟨fun e => absurd e (by decide), fun _ => ⟨fun _ => ⟨hv.1, hK, word 2 (by decide) (by decide) hL⟩, fun e => absurd rfl e⟩⟩
  · rw [if_pos (by decide), hV0 (by decide)] at hL
    exact ⟨fun e => absurd e (by decide), fun _ => ⟨fun e => absurd e (by decide), fun _ => ⟨fun _ => ⟨hv.1, hK, word 7 (by decide) (by decide) hL⟩, fun e => absurd rfl e⟩⟩⟩
  · rw [if_neg (by decide), if_pos rfl, hV0 (by decide)] at hL
    refine ⟨fun e => absurd e (by decide), fun _ => ⟨fun e => absurd e (by decide), fun _ => ⟨fun e => absurd e (by decide), fun _ => ⟨fun _ => ⟨hv.1, r123 h (fun j m N e hle => ⟨hKp, ?_⟩) (fun j m N e hgt => ?_) (fun q e => ?_)⟩, fun e => absurd rfl e⟩⟩⟩⟩
    · rw [e] at hL
      have hL2 : L = .inl (j, p + 1, up1 V p (eMk 3 (eU (V p)) (eD (V p)) (sgR m N) [] p)) := by rw [hL]; exact if_neg (by omega)
      obtain ⟨l1, l2⟩ := wnS_le e
      have hC := h.to l2
      have hs : ∀ x, x ≠ gA G p → sameAt (sI t r 4 (nI j)) (sJ (sI t r 4 (nI j)) (gA G p) 5 (sgR m N)) x := fun x hx => sameAt_sJ hx
      have hV2 : NV C (tN t0) (sJ (sI t r 4 (nI j)) (gA G p) 5 (sgR m N)) G (up1 V p (eMk 3 (eU (V p)) (eD (V p)) (sgR m N) [] p)) (p + 1) := by
        obtain ⟨np2, wp2, -⟩ := hC.2.2.2.2.2.1.1 p (by omega)
        refine NV.slot hC.2.2.2.2.2.1 (by omega) rfl hs rfl (fun _ _ => rfl) (fun _ _ => rfl) (by rw [hV]; rfl) rfl rfl (by rw [hV]; rfl) (by rw [hV]; rfl) (fun z => absurd z (by rw [hV]; show ¬ 5 ≤ 3; omega)) ?_ ?_ ?_ ⟨by show 0 ≤ 1200; omega, fun x hx => by cases hx⟩ (fun _ => Or.inr rfl)
        · simp [ht]; rfl
        · have := np2.2.2.1.1
          rw [hV, ePen_c] at this
          exact this
        · have := np2.2.2.1.2.2.2
          rw [hV] at this
          exact this
      obtain ⟨g1, g2⟩ := hC.slot (t' := sJ (sI t r 4 (nI j)) (gA G p) 5 (sgR m N)) (p := p) (by omega) rfl hs hV2
      refine k1 _ _ _ hL2 _ G g1 (fun _ _ => rfl) ((A1.at hrT).trans g2) ?_ ?_
      · show tN t + 4 ≤ _; omega
      · show tU t + 494 ≤ _; omega
    · rw [e] at hL
      have hL2 : L = .inr (3, i) := by rw [hL]; exact if_pos hgt
      obtain ⟨g1, g2, g3⟩ := h.bad (w := 3) (p := i) (RX.I (r := r) (ch := ch) (x := nI j) (Or.inr rfl)) rfl rfl
      exact k2 _ _ hL2 _ g1 (by show tN t + 1 + 2 ≤ _; omega) (by show tU t + 6 + 14 ≤ _; omega)
    · rw [e] at hL
      obtain ⟨g1, g2, g3⟩ := h.flq (q := q)
      exact k2 _ _ hL _ g1 (by omega) (by omega)
  · rw [if_neg (by decide), if_neg (by decide), if_pos rfl, up1_eq] at hL
    have e34 : pk b n i = 34 := by
      rw [pkI hi] at hkd ⊢
      exact kdB_4 _ (hb i) hkd
    refine ⟨fun e => absurd e (by decide), fun _ => ⟨fun e => absurd e (by decide), fun _ => ⟨fun e => absurd e (by decide), fun _ => ⟨fun e => absurd e (by decide), fun _ => ⟨fun _ => ⟨hv.1, hK, r95 (q := 34) (Or.inl rfl) h.1 hi e34 (fun cs j es t2 x1 x2 x3 x4 x5 => ?_) (fun q es t2 hB => ?_)⟩, fun e => absurd rfl e⟩⟩⟩⟩⟩
    · obtain ⟨s1, s2, s3, s4⟩ := stS_ok hb hn (by decide) es
      rw [es] at hL
      have hL2 : L = .inl (j, p + 1, up1 (up1 V p (eMk 4 u (30 - f) 0 [] p)) p (eMk 4 u (30 - f) 0 cs p)) := hL
      rw [up1_up1] at hL2
      have hC := h.rx x1 x4 s2
      have hs : ∀ x, x ≠ gA G p → sameAt t2 (sR t2 (gA G p) 6 (some (tN t))) x := fun x hx => sameAt_sR hx
      obtain ⟨np2, wp2, -⟩ := hC.2.2.2.2.2.1.1 p (by omega)
      have hne : tN t ≠ gA G p := by have := np.1.2.1; omega
      refine ⟨np2.1.2.2, ?_⟩
      have hV2 : NV C (tN t0) (sR t2 (gA G p) 6 (some (tN t))) G (up1 V p (eMk 4 u (30 - f) 0 cs p)) (p + 1) := by
        refine NV.slot hC.2.2.2.2.2.1 (by omega) rfl hs rfl (fun _ _ => rfl) (fun k hk => by simp [ht, hk]) (by rw [hV]; rfl) (by rw [hV]; rfl) (by rw [hV]; rfl) (by rw [hV]; rfl) (by rw [hV]; rfl) (fun z => absurd z (by rw [hV]; show ¬ 5 ≤ 4; omega)) ?_ ?_ ?_ s4 (fun _ => Or.inr rfl)
        · have := np2.2.1.2.2.2.2
          rw [hV] at this
          exact this
        · refine ⟨tN t, by simp [ht], hTN, by show tN t < tN t2; omega, x5.frame (sameAt_sR hne)⟩
        · have := np2.2.2.1.2.2.2
          rw [hV] at this
          exact this
      obtain ⟨g1, g2⟩ := hC.slot (t' := sR t2 (gA G p) 6 (some (tN t))) (p := p) (by omega) rfl hs hV2
      refine k1 _ _ _ hL2 _ G g1 (fun _ _ => rfl) ((A1.rx x1 hrT hcT).trans g2) ?_ ?_
      · show tN t2 + 4 ≤ _; omega
      · show tU t2 + 494 ≤ _; omega
    · rw [es] at hL
      exact k2 1 q hL _ (h.bd hB) (by have := hB.2.1; omega) (by have := hB.2.2.1; omega)
  · rw [if_neg (by decide), if_neg (by decide), if_neg (by decide), if_pos rfl, hV0 (by decide)] at hL
    refine ⟨fun e => absurd e (by decide), fun _ => ⟨fun e => absurd e (by decide), fun _ => ⟨fun e => absurd e (by decide), fun _ => ⟨fun e => absurd e (by decide), fun _ => ⟨fun e => absurd e (by decide), fun _ => ⟨fun _ => ⟨hv.1, ?_⟩, fun e => absurd rfl e⟩⟩⟩⟩⟩⟩
    refine r125 (E := E + 1) ih' h hi (by omega) (by rw [hV]; rfl) (by rw [hV]; show 30 - f + 1 = _; omega) hL (fun j c' V' e t' G' g1 g2 g3 g4 g5 => ⟨rfl, ?_⟩) (fun w q e t' g1 g2 g3 => ?_)
    · exact k1 j c' V' e t' G' g1 g2 g3 g4 g5
    · exact k2 w q e t' g1 g2 g3
  · rw [if_neg (by decide), if_neg (by decide), if_neg (by decide), if_neg (by decide), hV0 (by decide)] at hL
    refine ⟨fun e => absurd e (by decide), fun _ => ⟨fun e => absurd e (by decide), fun _ => ⟨fun e => absurd e (by decide), fun _ => ⟨fun e => absurd e (by decide), fun _ => ⟨fun e => absurd e (by decide), fun _ => ⟨fun e => absurd e (by decide), fun _ => ⟨hv.1, ?_⟩⟩⟩⟩⟩⟩⟩
    refine r126 ih h hi (by omega) (by rw [hV]; rfl) (by rw [hV]; show 30 - f + 1 = _; omega) hL (fun j c' V' e t' G' g1 g2 g3 g4 g5 => ⟨rfl, ?_⟩) (fun w q e t' g1 g2 g3 => ?_)
    · exact k1 j c' V' e t' G' g1 g2 g3 g4 g5
    · exact k2 w q e t' g1 g2 g3
end RN
