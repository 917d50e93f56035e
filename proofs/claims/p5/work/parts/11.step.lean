/-! one instruction -/
section S1
variable {C : Cx} {M : Mi} {X : MT} {mtab : List ME} {mt : List (Nat × Nat × Nat)} {d : Nat} {t0 t : Ht} {Q : OutT → Ht → Prop} {K : Nat → LV → List SV → Ht → Prop} {pc pc' len : Nat} {lv lv' : LV} {st st' : List SV}
theorem wg_step (f : ∀ {p : Program} {l : Launch} {e : Env} {R : Room} {s : State} {m : MethodId} {args : Array Value} {below : List Frame} {meth : Method} {c : Code} {H : Heap} {locs : List Loc} {cells slots : Nat} {Q : State → Prop} {ls : Array Slot}, p.tables.exec = Jvm.exec → c.code = M.2.2.1 → lv_has ls M.2.2.2.1 (lv.map fv) →
      W p l e R s m args below meth c H locs cells slots Q (F0 m pc' ls (st'.map vv)) → W p l e R s m args below meth c H locs cells slots Q (F0 m pc ls (st.map vv)))
    (k : WG C M d t0 Q pc' lv st' t) : WG C M d t0 Q pc lv st t := by
  obtain ⟨o, t', hq, h1, h2, g⟩ := k
  exact ⟨o, t', hq, h1, h2, gd_step f g⟩
theorem wg_stepL (f : ∀ {p : Program} {l : Launch} {e : Env} {R : Room} {s : State} {m : MethodId} {args : Array Value} {below : List Frame} {meth : Method} {c : Code} {H : Heap} {locs : List Loc} {cells slots : Nat} {Q : State → Prop} {ls : Array Slot}, p.tables.exec = Jvm.exec → c.code = M.2.2.1 → lv_has ls M.2.2.2.1 (lv.map fv) →
      (∀ ls : Array Slot, lv_has ls M.2.2.2.1 (lv'.map fv) → W p l e R s m args below meth c H locs cells slots Q (F0 m pc' ls (st'.map vv))) → W p l e R s m args below meth c H locs cells slots Q (F0 m pc ls (st.map vv)))
    (k : WG C M d t0 Q pc' lv' st' t) : WG C M d t0 Q pc lv st t := by
  obtain ⟨o, t', hq, h1, h2, g⟩ := k
  exact ⟨o, t', hq, h1, h2, gd_stepL f g⟩
theorem wg_stepC (f : ∀ {p : Program} {l : Launch} {e : Env} {R : Room} {s : State} {m : MethodId} {args : Array Value} {below : List Frame} {meth : Method} {c : Code} {H : Heap} {locs : List Loc} {cells slots : Nat} {Q : State → Prop} {ls : Array Slot}, p.tables.exec = Jvm.exec → c.code = M.2.2.1 → s.vm.findClass M.1 = some m.cls → (∀ w ∈ gW, w.before args s = true) →
      W p l e R s m args below meth c H locs cells slots Q (F0 m pc' ls (st'.map vv)) → W p l e R s m args below meth c H locs cells slots Q (F0 m pc ls (st.map vv)))
    (k : WG C M d t0 Q pc' lv st' t) : WG C M d t0 Q pc lv st t := by
  obtain ⟨o, t', hq, h1, h2, g⟩ := k
  exact ⟨o, t', hq, h1, h2, gd_stepC f g⟩
/-- two roads: the outcome is that of the road that is taken -/
theorem wg_br {c : Prop} {pc1 pc2 : Nat} {st1 st2 : List SV} (f : ∀ {p : Program} {l : Launch} {e : Env} {R : Room} {s : State} {m : MethodId} {args : Array Value} {below : List Frame} {meth : Method} {c9 : Code} {H : Heap} {locs : List Loc} {cells slots : Nat} {Q : State → Prop} {ls : Array Slot}, p.tables.exec = Jvm.exec → c9.code = M.2.2.1 →
      (c → W p l e R s m args below meth c9 H locs cells slots Q (F0 m pc1 ls (st1.map vv))) → (¬ c → W p l e R s m args below meth c9 H locs cells slots Q (F0 m pc2 ls (st2.map vv))) → W p l e R s m args below meth c9 H locs cells slots Q (F0 m pc ls (st.map vv)))
    (k1 : c → WG C M d t0 Q pc1 lv st1 t) (k2 : ¬ c → WG C M d t0 Q pc2 lv st2 t) : WG C M d t0 Q pc lv st t := by
  by_cases hc : c
  · exact wg_step (fun hx hb _ k => f hx hb (fun _ => k) (fun z => absurd hc z)) (k1 hc)
  · exact wg_step (fun hx hb _ k => f hx hb (fun z => absurd z hc) (fun _ => k)) (k2 hc)
theorem wg_ifI {c : ClassFile.Cond} {x y : Int32} {off : Int} {A B : Prop} (hdg : decode M.2.2.1 pc = .ok (.if_icmp c off, 3)) (ht : 0 ≤ (pc : Int) + off) (h : ifI c x y A B) (hA : A → WG C M d t0 Q (tgt pc off) lv st t) (hB : B → WG C M d t0 Q (pc + 3) lv st t) : WG C M d t0 Q pc lv (svI y :: svI x :: st) t := by
  have e := tgt_ok ht
  cases c with
  | eq => exact wg_br (c := x = y) (fun hx hb k1 k2 => lv_icmp_eq hx hb hdg e k1 k2) (fun z => hA (h.1 z)) (fun z => hB (h.2 z))
  | ne => exact wg_br (c := x = y) (fun hx hb k1 k2 => lv_icmp_ne hx hb hdg e k2 k1) (fun z => hB (h.1 z)) (fun z => hA (h.2 z))
  | lt => exact wg_br (c := x < y) (fun hx hb k1 k2 => lv_icmp_lt hx hb hdg e k1 k2) (fun z => hA (h.1 z)) (fun z => hB (h.2 z))
  | ge => exact wg_br (c := y ≤ x) (fun hx hb k1 k2 => lv_icmp_ge hx hb hdg e k1 k2) (fun z => hA (h.1 z)) (fun z => hB (h.2 z))
  | gt => exact wg_br (c := y < x) (fun hx hb k1 k2 => lv_icmp_gt hx hb hdg e k1 k2) (fun z => hA (h.1 z)) (fun z => hB (h.2 z))
  | le => exact wg_br (c := x ≤ y) (fun hx hb k1 k2 => lv_icmp_le hx hb hdg e k1 k2) (fun z => hA (h.1 z)) (fun z => hB (h.2 z))
theorem wg_if0 {c : ClassFile.Cond} {x : Int32} {off : Int} {A B : Prop} (hdg : decode M.2.2.1 pc = .ok (.ifCond c off, 3)) (ht : 0 ≤ (pc : Int) + off) (h : ifI c x 0 A B) (hA : A → WG C M d t0 Q (tgt pc off) lv st t) (hB : B → WG C M d t0 Q (pc + 3) lv st t) : WG C M d t0 Q pc lv (svI x :: st) t := by
  have e := tgt_ok ht
  cases c with
  | eq => exact wg_br (c := x = 0) (fun hx hb k1 k2 => lv_if_eq hx hb hdg e k1 k2) (fun z => hA (h.1 z)) (fun z => hB (h.2 z))
  | ne => exact wg_br (c := x = 0) (fun hx hb k1 k2 => lv_if_ne hx hb hdg e k2 k1) (fun z => hB (h.1 z)) (fun z => hA (h.2 z))
  | lt => exact wg_br (c := x < 0) (fun hx hb k1 k2 => lv_if_lt hx hb hdg e k1 k2) (fun z => hA (h.1 z)) (fun z => hB (h.2 z))
  | ge => exact wg_br (c := 0 ≤ x) (fun hx hb k1 k2 => lv_if_ge hx hb hdg e k1 k2) (fun z => hA (h.1 z)) (fun z => hB (h.2 z))
  | gt => exact wg_br (c := 0 < x) (fun hx hb k1 k2 => lv_if_gt hx hb hdg e k1 k2) (fun z => hA (h.1 z)) (fun z => hB (h.2 z))
  | le => exact wg_br (c := x ≤ 0) (fun hx hb k1 k2 => lv_if_le hx hb hdg e k1 k2) (fun z => hA (h.1 z)) (fun z => hB (h.2 z))
/-- a switch: the first pair that names x, else the default -/
theorem sw_of {x : Int32} {J : Int → Prop} {dd : Int} : ∀ (l : List (Int × Int)), (∀ q ∈ l, -2147483648 ≤ q.1 ∧ q.1 ≤ 2147483647) → sw x J (J dd) l → J (Op.lookupswitch.offset l dd x.toInt)
  | [], _, h => h
  | (k, o) :: r, hr, h => by
    obtain ⟨h1, h2⟩ := h
    have hk := hr (k, o) List.mem_cons_self
    have e : (Int32.ofInt k).toInt = k := Int32.toInt_ofInt_of_le hk.1 (by have := hk.2; omega)
    by_cases z : x = Int32.ofInt k
    · have e2 : Op.lookupswitch.offset ((k, o) :: r) dd x.toInt = o := by rw [z, e]; simp [Op.lookupswitch.offset]
      rw [e2]; exact h1 z
    · rw [lv_osw z e]
      exact sw_of r (fun q hq => hr q (List.mem_cons_of_mem _ hq)) (h2 z)
theorem swL_of {x : Int32} {J : Int → Prop} {D : Prop} : ∀ (l : List Int) (lo : Int), -2147483648 ≤ lo → lo + l.length ≤ 2147483648 → sw x J D (swL lo l) → (∃ (i : Nat) (o : Int), l[i]? = some o ∧ x.toInt = lo + i ∧ J o) ∨ ((x.toInt < lo ∨ lo + l.length ≤ x.toInt) ∧ D)
  | [], lo, _, _, h => Or.inr ⟨by simp; omega, h⟩
  | o :: r, lo, h1, h2, h => by
    obtain ⟨k1, k2⟩ := h
    have e : (Int32.ofInt lo).toInt = lo := Int32.toInt_ofInt_of_le h1 (by simp at h2; omega)
    by_cases z : x = Int32.ofInt lo
    · exact Or.inl ⟨0, o, rfl, by rw [z, e]; simp, k1 z⟩
    · have ne : x.toInt ≠ lo := fun e2 => z (Int32.toInt_inj.mp (by rw [e]; exact e2))
      rcases swL_of r (lo + 1) (by omega) (by simp at h2; omega) (k2 z) with ⟨i, o', q1, q2, q3⟩ | ⟨q1, q2⟩
      · exact Or.inl ⟨i + 1, o', q1, by rw [q2]; push_cast; omega, q3⟩
      · refine Or.inr ⟨?_, q2⟩
        simp
        omega
end S1
