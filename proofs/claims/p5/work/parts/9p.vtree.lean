/-! THE TABLE OF A VALUE THAT WAS READ: its nodes lie one behind the other -/
def kcV (V : VT) : List Nat → Nat → Nat → Prop
  | [], lo, hi => lo = hi
  | k :: r, lo, hi => k = lo ∧ lo ≤ eL (V k) ∧ kcV V r (eL (V k) + 1) hi
def kfV (V : VT) (p : Nat) : Prop := ∀ i, i < (eS (V p)).length → eU (V ((eS (V p)).getD i 0)) = some p ∧ eX (V ((eS (V p)).getD i 0)) = (if eK (V p) = 5 then some i else none) ∧ (eK (V p) = 6 → eN (V ((eS (V p)).getD i 0)) ≠ none) ∧ eD (V ((eS (V p)).getD i 0)) = eD (V p) + 1
def NIv (V : VT) (j : Nat) : Prop := kcV V (eS (V j)) (j + 1) (eL (V j) + 1) ∧ kfV V j ∧ (eK (V j) < 5 → eS (V j) = []) ∧ (eK (V j) ≠ 3 → eJ (V j) = 0) ∧ (eK (V j) ≠ 4 → eC (V j) = [])
section VTR
variable {V V1 V' : VT} {b : By} {n : Nat}
theorem kcV_le : ∀ {l : List Nat} {lo hi : Nat}, kcV V l lo hi → lo ≤ hi
  | [], _, _, h => Nat.le_of_eq h
  | k :: r, lo, hi, h => by
    have := kcV_le h.2.2
    have := h.2.1
    omega
theorem kcV_in : ∀ {l : List Nat} {lo hi : Nat}, kcV V l lo hi → ∀ k ∈ l, lo ≤ k ∧ k < hi ∧ eL (V k) < hi
  | [], _, _, _, k, hk => by cases hk
  | a :: r, lo, hi, h, k, hk => by
    have h1 := kcV_le h.2.2
    rcases List.mem_cons.mp hk with rfl | hk
    · have := h.1; have := h.2.1; omega
    · have := kcV_in h.2.2 k hk
      have := h.2.1
      omega
theorem kcV_eq : ∀ {l : List Nat} {lo hi : Nat}, kcV V l lo hi → (∀ k ∈ l, eL (V1 k) = eL (V k)) → kcV V1 l lo hi
  | [], _, _, h, _ => h
  | k :: r, lo, hi, h, he => by
    have e := he k (by simp)
    refine ⟨h.1, by rw [e]; exact h.2.1, ?_⟩
    rw [e]
    exact kcV_eq h.2.2 (fun z hz => he z (by simp [hz]))
theorem kcV_app {k : Nat} : ∀ {l : List Nat} {lo hi : Nat}, kcV V l lo hi → k = hi → hi ≤ eL (V k) → kcV V (l ++ [k]) lo (eL (V k) + 1)
  | [], lo, hi, h, hk, he => ⟨hk.trans h.symm, by rw [h]; exact he, rfl⟩
  | a :: r, lo, hi, h, hk, he => ⟨h.1, h.2.1, kcV_app h.2.2 hk he⟩
theorem gd_mem {l : List Nat} {i : Nat} (h : i < l.length) : l.getD i 0 ∈ l := kid_mem h
/-- the same node in another table -/
theorem NIv.eq {j : Nat} (h : NIv V j) (hj : V1 j = V j) (hk : ∀ k ∈ eS (V j), V1 k = V k) : NIv V1 j := by
  obtain ⟨h1, h2, h3, h4, h5⟩ := h
  unfold NIv
  rw [hj]
  refine ⟨kcV_eq h1 (fun k hk' => by rw [hk k hk']), fun i hi => ?_, h3, h4, h5⟩
  rw [hj] at hi ⊢
  rw [hk _ (gd_mem hi)]
  exact h2 i hi
/-- what a reader of values gives -/
def RDv (n : Nat) (rd : Nat → Nat → VT → Rs) (u : Option Nat) (dd : Nat) : Prop := ∀ i c V j c' V', i ≤ n → rd i c V = .inl (j, c', V') → (∀ x, c ≤ x → x < c' → NIv V' x ∧ eL (V' x) < c') ∧ eL (V' c) = c' - 1 ∧ eU (V' c) = u ∧ eD (V' c) = dd
/-- an array, an object with its kids so far -/
def PIv (V : VT) (p c dd : Nat) : Prop := (∀ x, p < x → x < c → NIv V x ∧ eL (V x) < c) ∧ kcV V (eS (V p)) (p + 1) c ∧ kfV V p ∧ (eK (V p) = 5 ∨ eK (V p) = 6) ∧ eD (V p) + 1 = dd ∧ eJ (V p) = 0 ∧ eC (V p) = []
theorem PIv.add {p c c1 dd : Nat} {nm : Option (List Nat)} (h : PIv V p c dd) (hpc : p < c) (hc : c < c1) (hs : ∀ x, x < c → V1 x = V x) (hn : ∀ x, c ≤ x → x < c1 → NIv V1 x ∧ eL (V1 x) < c1) (hl : eL (V1 c) = c1 - 1) (hu : eU (V1 c) = some p) (hd : eD (V1 c) = dd) (hnm : eK (V p) = 6 → nm ≠ none) : PIv (vAdo V1 p c nm) p c1 dd ∧ eU (vAdo V1 p c nm p) = eU (V p) ∧ eK (vAdo V1 p c nm p) = eK (V p) := by
  obtain ⟨h1, h2, h3, h4, h5, h6, h7⟩ := h
  have hp : V1 p = V p := hs p hpc
  have vp : vAdo V1 p c nm p = eAdd (V p) c := by unfold vAdo; rw [up1, if_pos rfl, hp]
  have vc : vAdo V1 p c nm c = eNam (V1 c) nm (kIx (V p)) := by unfold vAdo; rw [up1, if_neg (by omega), up1, if_pos rfl, hp]
  have vx : ∀ x, x ≠ p → x ≠ c → vAdo V1 p c nm x = V1 x := fun x a1 a2 => by unfold vAdo; rw [up1, if_neg a1, up1, if_neg a2]
  have sp : eS (V p) = eS (V1 p) := by rw [hp]
  have kin := fun k hk => kcV_in h2 k hk
  refine ⟨⟨fun x a1 a2 => ?_, ?_, fun i hi => ?_, ?_, ?_, ?_, ?_⟩, by rw [vp]; rfl, by rw [vp]; rfl⟩
  · rcases Nat.lt_trichotomy x c with w | w | w
    · obtain ⟨g1, g2⟩ := h1 x a1 w
      have ex : vAdo V1 p c nm x = V x := (vx x (by omega) (by omega)).trans (hs x w)
      refine ⟨g1.eq ex (fun k hk => ?_), by rw [ex]; omega⟩
      have := kcV_in g1.1 k hk
      rw [vx k (by omega) (by omega)]
      exact hs k (by omega)
    · subst w
      obtain ⟨g1, g2⟩ := hn x (Nat.le_refl _) hc
      refine ⟨?_, by rw [vc]; exact g2⟩
      obtain ⟨e1, e2, e3, e4, e5⟩ := g1
      have kk : ∀ k ∈ eS (V1 x), vAdo V1 p x nm k = V1 k := fun k hk => by
        have := kcV_in e1 k hk
        exact vx k (by omega) (by omega)
      unfold NIv
      rw [vc]
      refine ⟨kcV_eq e1 (fun k hk => by rw [kk k hk]), fun i hi => ?_, e3, e4, e5⟩
      rw [vc] at hi ⊢
      have hm : (eS (V1 x)).getD i 0 ∈ eS (V1 x) := gd_mem hi
      have := e2 i hi
      show eU (vAdo V1 p x nm ((eS (V1 x)).getD i 0)) = some x ∧ eX (vAdo V1 p x nm ((eS (V1 x)).getD i 0)) = (if eK (V1 x) = 5 then some i else none) ∧ (eK (V1 x) = 6 → eN (vAdo V1 p x nm ((eS (V1 x)).getD i 0)) ≠ none) ∧ eD (vAdo V1 p x nm ((eS (V1 x)).getD i 0)) = eD (V1 x) + 1
      rw [kk _ hm]
      exact this
    · obtain ⟨g1, g2⟩ := hn x (by omega) a2
      have ex : vAdo V1 p c nm x = V1 x := vx x (by omega) (by omega)
      refine ⟨g1.eq ex (fun k hk => ?_), by rw [ex]; exact g2⟩
      have := kcV_in g1.1 k hk
      exact vx k (by omega) (by omega)
  · rw [vp]
    show kcV (vAdo V1 p c nm) (eS (V p) ++ [c]) (p + 1) c1
    have e1 : eL (vAdo V1 p c nm c) = c1 - 1 := by rw [vc]; exact hl
    have := kcV_app (V := vAdo V1 p c nm) (k := c) (kcV_eq h2 (fun k hk => by
      have := kin k hk
      rw [vx k (by omega) (by omega), hs k (by omega)])) rfl (by rw [e1]; omega)
    rw [e1, show c1 - 1 + 1 = c1 by omega] at this
    exact this
  · rw [vp] at hi ⊢
    have hi' : i < (eS (V p)).length + 1 := by
      have : (eS (V p) ++ [c]).length = (eS (V p)).length + 1 := by simp
      have hi2 : i < (eS (V p) ++ [c]).length := hi
      omega
    show eU (vAdo V1 p c nm ((eS (V p) ++ [c]).getD i 0)) = some p ∧ eX (vAdo V1 p c nm ((eS (V p) ++ [c]).getD i 0)) = (if eK (V p) = 5 then some i else none) ∧ (eK (V p) = 6 → eN (vAdo V1 p c nm ((eS (V p) ++ [c]).getD i 0)) ≠ none) ∧ eD (vAdo V1 p c nm ((eS (V p) ++ [c]).getD i 0)) = eD (V p) + 1
    by_cases w : i < (eS (V p)).length
    · have e0 : (eS (V p) ++ [c]).getD i 0 = (eS (V p)).getD i 0 := by simp [List.getD, List.getElem?_append_left w]
      rw [e0]
      have := kin _ (gd_mem w)
      rw [vx _ (by omega) (by omega), hs _ (by omega)]
      exact h3 i w
    · have ei : i = (eS (V p)).length := by omega
      have e0 : (eS (V p) ++ [c]).getD i 0 = c := by rw [ei]; simp [List.getD]
      rw [e0, vc]
      refine ⟨hu, ?_, fun z => ?_, ?_⟩
      · show kIx (V p) = _
        unfold kIx
        rw [ei]
      · exact hnm z
      · show eD (V1 c) = _
        omega
  · rw [vp]; exact h4
  · rw [vp]; exact h5
  · rw [vp]; exact h6
  · rw [vp]; exact h7
theorem elF_v {rd : Nat → Nat → VT → Rs} {p dd : Nat} (hf : Fwd n rd) (hr : RDv n rd (some p) dd) : ∀ (g i c : Nat) (V : VT) (j c' : Nat) (V' : VT), i ≤ n → p < c → PIv V p c dd → eK (V p) = 5 → elF b n rd p g i c V = .inl (j, c', V') → PIv V' p c' dd ∧ eU (V' p) = eU (V p) ∧ eK (V' p) = eK (V p) := by
  intro g
  induction g with
  | zero => intro i c V j c' V' _ _ _ _ h; cases h
  | succ g ih =>
    intro i c V j c' V' hi hpc hP h5 h
    rw [elF] at h
    cases hx : rd i c V with
    | inr e => rw [hx] at h; cases h
    | inl z =>
      obtain ⟨j1, c1, V1⟩ := z
      rw [hx] at h
      obtain ⟨f1, f2, f3, f4, -⟩ := hf i c V j1 c1 V1 hi hx
      obtain ⟨r1, r2, r3, r4⟩ := hr i c V j1 c1 V1 hi hx
      obtain ⟨a1, a2, a3⟩ := hP.add (nm := none) hpc f3 f4 r1 r2 r3 r4 (fun z => by omega)
      have hs := sk_le (b := b) f2
      have h : (if pk b n (sk b n j1) = 44 then elF b n rd p g (sk b n (sk b n j1 + 1)) c1 (vAdo V1 p c none) else if pk b n (sk b n j1) = 93 then .inl (sk b n j1 + 1, c1, vAdo V1 p c none) else .inr (1, sk b n j1)) = .inl (j, c', V') := h
      split at h
      · rename_i e44
        have hlt := (pk_nn e44 (by decide)).1
        obtain ⟨b1, b2, b3⟩ := ih _ _ _ _ _ _ (sk_le (b := b) (n := n) (i := sk b n j1 + 1) (by omega)) (by omega) a1 (a3.trans h5) h
        exact ⟨b1, b2.trans a2, b3.trans a3⟩
      · split at h
        · injection h with h
          injection h with _ h
          injection h with h1 h2
          subst h1 h2
          exact ⟨a1, a2, a3⟩
        · cases h
theorem obF_v {rd : Nat → Nat → VT → Rs} {p dd : Nat} (hb : ∀ k, b k < 256) (hn : n ≤ 1200) (hf : Fwd n rd) (hr : RDv n rd (some p) dd) : ∀ (g i c : Nat) (V : VT) (j c' : Nat) (V' : VT), i ≤ n → p < c → PIv V p c dd → obF b n rd p g i c V = .inl (j, c', V') → PIv V' p c' dd ∧ eU (V' p) = eU (V p) ∧ eK (V' p) = eK (V p) := by
  intro g
  induction g with
  | zero => intro i c V j c' V' _ _ _ h; cases h
  | succ g ih =>
    intro i c V j c' V' hi hpc hP h
    rw [obF] at h
    cases hx : mbS b n rd p i c V with
    | inr e => rw [hx] at h; cases h
    | inl z =>
      obtain ⟨j1, c1, V2⟩ := z
      rw [hx] at h
      have key : ∃ i2 V1 cs, i2 ≤ n ∧ j1 ≤ n ∧ rd i2 c V = .inl (j1, c1, V1) ∧ V2 = vAdo V1 p c (some cs) := by
        unfold mbS at hx
        split at hx
        · cases hs : stS b n 34 (i + 1) with
          | inr q => rw [hs] at hx; cases hx
          | inl z =>
            obtain ⟨cs, j0⟩ := z
            rw [hs] at hx
            obtain ⟨s1, s2, -⟩ := stS_ok hb hn (by decide) hs
            have hx : (if hasN V p cs then .inr (2, i) else if pk b n (sk b n j0) = 58 then (match rd (sk b n (sk b n j0 + 1)) c V with
              | .inr e => .inr e
              | .inl (j, c', V') => .inl (j, c', vAdo V' p c (some cs)) : Rs) else .inr (1, sk b n j0)) = .inl (j1, c1, V2) := hx
            split at hx
            · cases hx
            split at hx
            · rename_i e58
              have hlt := (pk_nn e58 (by decide)).1
              have hk := sk_le (b := b) (n := n) (i := sk b n j0 + 1) (by omega)
              cases hr' : rd (sk b n (sk b n j0 + 1)) c V with
              | inr e => rw [hr'] at hx; cases hx
              | inl z =>
                obtain ⟨j2, c2, V1⟩ := z
                rw [hr'] at hx
                injection hx with hx
                injection hx with h1 hx
                injection hx with h2 h3
                subst h1 h2
                exact ⟨_, V1, cs, hk, (hf _ _ _ _ _ _ hk hr').2.1, hr', h3.symm⟩
            · cases hx
        · cases hx
      obtain ⟨i2, V1, cs, hi2, hj1, hrd, rfl⟩ := key
      obtain ⟨f1, f2, f3, f4, -⟩ := hf i2 c V j1 c1 V1 hi2 hrd
      obtain ⟨r1, r2, r3, r4⟩ := hr i2 c V j1 c1 V1 hi2 hrd
      obtain ⟨a1, a2, a3⟩ := hP.add (nm := some cs) hpc f3 f4 r1 r2 r3 r4 (fun z => by simp)
      have hs := sk_le (b := b) f2
      have h : (if pk b n (sk b n j1) = 44 then obF b n rd p g (sk b n (sk b n j1 + 1)) c1 (vAdo V1 p c (some cs)) else if pk b n (sk b n j1) = 125 then .inl (sk b n j1 + 1, c1, vAdo V1 p c (some cs)) else .inr (1, sk b n j1)) = .inl (j, c', V') := h
      split at h
      · rename_i e44
        have hlt := (pk_nn e44 (by decide)).1
        obtain ⟨b1, b2, b3⟩ := ih _ _ _ _ _ _ (sk_le (b := b) (n := n) (i := sk b n j1 + 1) (by omega)) (by omega) a1 h
        exact ⟨b1, b2.trans a2, b3.trans a3⟩
      · split at h
        · injection h with h
          injection h with _ h
          injection h with h1 h2
          subst h1 h2
          exact ⟨a1, a2, a3⟩
        · cases h
/-- a value that was read -/
theorem vaS_v {W : Nat → (Nat × Bool × Nat) ⊕ Nat} (hb : ∀ k, b k < 256) (hn : n ≤ 1200) (hW : ∀ i j m N, W i = .inl (j, m, N) → i < j ∧ j ≤ n) : ∀ (f : Nat) (u : Option Nat), f ≤ 30 → RDv n (vaS b n W f u) u (31 - f) := by
  intro f
  induction f with
  | zero =>
    intro u _ i c V j c' V' _ h
    rw [vaS] at h
    split at h <;> cases h
  | succ f ih =>
    intro u hf i c V j c' V' hi h
    have hfw := vaS_inv hb hn hW (f + 1) u i c V j c' V' hi h
    rw [vaS] at h
    cases hk : kdB (pk b n i) with
    | none => rw [hk] at h; cases h
    | some k =>
      rw [hk] at h
      have h : (if 300 ≤ c then .inr (4, i) else rsL c (rsS b n W (vaS b n W f (some c)) k i c (up1 V c (eMk k u (30 - f) 0 [] c))) : Rs) = .inl (j, c', V') := h
      split at h
      · cases h
      have hin := (kdB_lt hb hk).1
      have hk7 := (kdB_lt hb hk).2
      obtain ⟨V0, hV0⟩ : ∃ V0, V0 = up1 V c (eMk k u (30 - f) 0 [] c) := ⟨_, rfl⟩
      rw [← hV0] at h
      have v0 : V0 c = eMk k u (30 - f) 0 [] c := by rw [hV0, up1, if_pos rfl]
      -- the node's own part, before its last is set
      have fin : ∀ j1 c1 V1, rsS b n W (vaS b n W f (some c)) k i c V0 = .inl (j1, c1, V1) → c < c1 → ((∀ x, c < x → x < c1 → NIv V1 x ∧ eL (V1 x) < c1) ∧ kcV V1 (eS (V1 c)) (c + 1) c1 ∧ kfV V1 c ∧ (eK (V1 c) < 5 → eS (V1 c) = []) ∧ (eK (V1 c) ≠ 3 → eJ (V1 c) = 0) ∧ (eK (V1 c) ≠ 4 → eC (V1 c) = []) ∧ eU (V1 c) = u ∧ eD (V1 c) = 30 - f) → (∀ x, c ≤ x → x < c' → NIv V' x ∧ eL (V' x) < c') ∧ eL (V' c) = c' - 1 ∧ eU (V' c) = u ∧ eD (V' c) = 31 - (f + 1) := by
        intro j1 c1 V1 e hcc hh
        rw [e] at h
        have h : (.inl (j1, c1, vLst V1 c (c1 - 1)) : Rs) = .inl (j, c', V') := h
        injection h with h
        injection h with _ h
        injection h with h1 h2
        subst h1 h2
        obtain ⟨g1, g2, g3, g4, g5, g6, g7, g8⟩ := hh
        have lc : vLst V1 c (c1 - 1) c = eLst (V1 c) (c1 - 1) := by unfold vLst; rw [up1, if_pos rfl]
        have lx : ∀ x, x ≠ c → vLst V1 c (c1 - 1) x = V1 x := fun x hx => by unfold vLst; rw [up1, if_neg hx]
        have kin := fun z hz => kcV_in g2 z hz
        refine ⟨fun x a1 a2 => ?_, by rw [lc]; rfl, by rw [lc]; exact g7, by rw [lc]; show eD (V1 c) = _; omega⟩
        by_cases ex : x = c
        · subst ex
          have kk : ∀ z ∈ eS (V1 x), vLst V1 x (c1 - 1) z = V1 z := fun z hz => lx z (by have := kin z hz; omega)
          refine ⟨?_, by rw [lc]; show c1 - 1 < c1; omega⟩
          unfold NIv
          rw [lc]
          refine ⟨?_, fun m hm => ?_, g4, g5, g6⟩
          · show kcV (vLst V1 x (c1 - 1)) (eS (V1 x)) (x + 1) (c1 - 1 + 1)
            rw [show c1 - 1 + 1 = c1 by omega]
            exact kcV_eq g2 (fun z hz => by rw [kk z hz])
          · rw [lc] at hm ⊢
            have hmm : (eS (V1 x)).getD m 0 ∈ eS (V1 x) := gd_mem hm
            show eU (vLst V1 x (c1 - 1) ((eS (V1 x)).getD m 0)) = some x ∧ eX (vLst V1 x (c1 - 1) ((eS (V1 x)).getD m 0)) = (if eK (V1 x) = 5 then some m else none) ∧ (eK (V1 x) = 6 → eN (vLst V1 x (c1 - 1) ((eS (V1 x)).getD m 0)) ≠ none) ∧ eD (vLst V1 x (c1 - 1) ((eS (V1 x)).getD m 0)) = eD (V1 x) + 1
            rw [kk _ hmm]
            exact g3 m hm
        · obtain ⟨q1, q2⟩ := g1 x (by omega) a2
          rw [lx x ex]
          refine ⟨q1.eq (lx x ex) (fun z hz => lx z (by have := kcV_in q1.1 z hz; omega)), q2⟩
      have leaf : ∀ j1 e, rsS b n W (vaS b n W f (some c)) k i c V0 = .inl (j1, c + 1, up1 V0 c e) → (eS e = [] ∧ (eK e ≠ 3 → eJ e = 0) ∧ (eK e ≠ 4 → eC e = []) ∧ eU e = u ∧ eD e = 30 - f) → (∀ x, c ≤ x → x < c' → NIv V' x ∧ eL (V' x) < c') ∧ eL (V' c) = c' - 1 ∧ eU (V' c) = u ∧ eD (V' c) = 31 - (f + 1) := by
        intro j1 e he hh
        obtain ⟨a1, a2, a3, a4, a5⟩ := hh
        have ve : up1 V0 c e c = e := by rw [up1, if_pos rfl]
        refine fin j1 (c + 1) _ he (by omega) ⟨fun x b1 b2 => by omega, ?_, fun m hm => ?_, ?_, ?_, ?_, ?_, ?_⟩
        · rw [ve, a1]; rfl
        · rw [ve, a1] at hm; cases hm
        · rw [ve]; exact fun _ => a1
        · rw [ve]; exact a2
        · rw [ve]; exact a3
        · rw [ve]; exact a4
        · rw [ve]; exact a5
      have self : V0 = up1 V0 c (V0 c) := by
        funext x
        rw [up1]
        by_cases ex : x = c
        · rw [if_pos ex, ex]
        · rw [if_neg ex]
      have lv : eS (V0 c) = [] ∧ (eK (V0 c) ≠ 3 → eJ (V0 c) = 0) ∧ (eK (V0 c) ≠ 4 → eC (V0 c) = []) ∧ eU (V0 c) = u ∧ eD (V0 c) = 30 - f := by rw [v0]; exact ⟨rfl, fun _ => rfl, fun _ => rfl, rfl, rfl⟩
      have hP0 : k = 5 ∨ k = 6 → PIv V0 c (c + 1) (31 - f) := fun hk => by
        refine ⟨fun x a1 a2 => by omega, ?_, fun m hm => ?_, ?_, ?_, ?_, ?_⟩
        · rw [v0]; rfl
        · rw [v0] at hm; cases hm
        · rw [v0]; exact hk
        · rw [v0]; show 30 - f + 1 = _; omega
        · rw [v0]; rfl
        · rw [v0]; rfl
      have fin2 : ∀ j1 c1 V1, rsS b n W (vaS b n W f (some c)) k i c V0 = .inl (j1, c1, V1) → c < c1 → PIv V1 c c1 (31 - f) → eU (V1 c) = u → (∀ x, c ≤ x → x < c' → NIv V' x ∧ eL (V' x) < c') ∧ eL (V' c) = c' - 1 ∧ eU (V' c) = u ∧ eD (V' c) = 31 - (f + 1) := by
        intro j1 c1 V1 e hcc hP hu
        obtain ⟨p1, p2, p3, p4, p5, p6, p7⟩ := hP
        exact fin j1 c1 V1 e hcc ⟨p1, p2, p3, fun z => by omega, fun _ => p6, fun _ => p7, hu, by omega⟩
      have hsk := sk_le (b := b) (n := n) (i := i + 1) (by omega)
      cases hx : rsS b n W (vaS b n W f (some c)) k i c V0 with
      | inr e => rw [hx] at h; cases h
      | inl z =>
        obtain ⟨j1, c1, V1⟩ := z
        have hx0 := hx
        unfold rsS at hx
        split at hx
        · split at hx
          · cases hx
          · injection hx with hx
            injection hx with _ hx
            injection hx with h1 h2
            subst h1
            refine leaf j1 (V0 c) ?_ lv
            rw [hx0, ← self, h2]
        split at hx
        · split at hx
          · cases hx
          · split at hx
            · cases hx
            · injection hx with hx
              injection hx with _ hx
              injection hx with h1 h2
              subst h1
              refine leaf j1 _ (by rw [hx0, ← h2]) ⟨rfl, fun z => absurd rfl z, fun _ => rfl, ?_, ?_⟩
              · exact lv.2.2.2.1
              · exact lv.2.2.2.2
        split at hx
        · split at hx
          · cases hx
          · injection hx with hx
            injection hx with _ hx
            injection hx with h1 h2
            subst h1
            refine leaf j1 _ (by rw [hx0, ← h2]) ⟨rfl, fun _ => rfl, fun z => absurd rfl z, ?_, ?_⟩
            · exact lv.2.2.2.1
            · exact lv.2.2.2.2
        split at hx
        · rename_i k5
          split at hx
          · injection hx with hx
            injection hx with _ hx
            injection hx with h1 h2
            subst h1
            refine leaf j1 (V0 c) ?_ lv
            rw [hx0, ← self, h2]
          · obtain ⟨b1, b2, b3⟩ := elF_v (vaS_inv hb hn hW f (some c)) (ih (some c) (by omega)) _ _ _ _ _ _ _ hsk (by omega) (hP0 (Or.inl k5)) (by rw [v0]; exact k5) hx
            exact fin2 j1 c1 V1 hx0 (by have := kcV_le b1.2.1; omega) b1 (b2.trans lv.2.2.2.1)
        · split at hx
          · injection hx with hx
            injection hx with _ hx
            injection hx with h1 h2
            subst h1
            refine leaf j1 (V0 c) ?_ lv
            rw [hx0, ← self, h2]
          · obtain ⟨b1, b2, b3⟩ := obF_v hb hn (vaS_inv hb hn hW f (some c)) (ih (some c) (by omega)) _ _ _ _ _ _ _ hsk (by omega) (hP0 (Or.inr (by omega))) hx
            exact fin2 j1 c1 V1 hx0 (by have := kcV_le b1.2.1; omega) b1 (b2.trans lv.2.2.2.1)
end VTR
