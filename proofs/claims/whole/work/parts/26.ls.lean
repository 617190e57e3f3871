def w00 : Wd := (0, fun _ => (99, 0), fun _ _ => 0, fun _ _ => 0, fun _ _ => none)
theorem ins_all : ∀ t, t < 13 → Cond.instantiable (cN t) (fn t) ∈ tb := fun t ht => by
  rcases (show t = 0 ∨ t = 1 ∨ t = 2 ∨ t = 3 ∨ t = 4 ∨ t = 5 ∨ t = 6 ∨ t = 7 ∨ t = 8 ∨ t = 9 ∨ t = 10 ∨ t = 11 ∨ t = 12 by omega) with rfl | rfl | rfl | rfl | rfl | rfl | rfl | rfl | rfl | rfl | rfl | rfl | rfl
  · exact ins_0
  · exact ins_1
  · exact ins_2
  · exact ins_3
  · exact ins_4
  · exact ins_5
  · exact ins_6
  · exact ins_7
  · exact ins_8
  · exact ins_9
  · exact ins_10
  · exact ins_11
  · exact ins_12
theorem tb_lw {c : Cond} (h : c ∈ tb) : c ∈ lw_tbl := (List.mem_filter.mp h).1
theorem nw_tab {c : Cond} (h : isNw c = true) : c.onTables = true := by
  cases c <;> first | (exact absurd h (by decide)) | rfl | (simp [isNw] at h)
def stT (i : Nat) : Term := .string "GrindMill$Text" (sIx.getD i 0)
set_option maxRecDepth 100000 in
theorem st_strings {s : State} {b : Nat} {A : Nat → Prop} (hgv : (Jvm.Cond.and given_1 narrow_1).before #[Value.ref b] s = true) (hA : ∀ a : Nat, a < s.heap.size → ¬ A a) : ∃ adK adV : Nat → Nat, vk_S 5 lenS bytS adK adV A s s.heap ∧ ∀ i : Nat, i < 5 → (stT i).eval #[Value.ref b] s none [] s = some (.ref (adK i)) := by
  have hs := flat_of_before _ hgv
  refine vk_Sof (tm := stT) (len := lenS) (byt := bytS) ?_ ?_ ?_ ?_ ?_ ?_ ?_ hA
  · intro i hi; rcases (show i = 0 ∨ i = 1 ∨ i = 2 ∨ i = 3 ∨ i = 4 by omega) with rfl | rfl | rfl | rfl | rfl <;> decide
  · intro i hi; rcases (show i = 0 ∨ i = 1 ∨ i = 2 ∨ i = 3 ∨ i = 4 by omega) with rfl | rfl | rfl | rfl | rfl <;> exact hs _ (by decide +kernel)
  · intro i hi; rcases (show i = 0 ∨ i = 1 ∨ i = 2 ∨ i = 3 ∨ i = 4 by omega) with rfl | rfl | rfl | rfl | rfl <;> exact hs _ (by decide +kernel)
  · intro i hi; rcases (show i = 0 ∨ i = 1 ∨ i = 2 ∨ i = 3 ∨ i = 4 by omega) with rfl | rfl | rfl | rfl | rfl <;> exact hs _ (by decide +kernel)
  · intro i hi; rcases (show i = 0 ∨ i = 1 ∨ i = 2 ∨ i = 3 ∨ i = 4 by omega) with rfl | rfl | rfl | rfl | rfl <;> exact hs _ (by decide +kernel)
  · intro i hi j hj
    rcases (show i = 0 ∨ i = 1 ∨ i = 2 ∨ i = 3 ∨ i = 4 by omega) with rfl | rfl | rfl | rfl | rfl
    · have hj : j < 4 := hj
      rcases (show j = 0 ∨ j = 1 ∨ j = 2 ∨ j = 3 by omega) with rfl | rfl | rfl | rfl <;> exact hs _ (by decide +kernel)
    · have hj : j < 5 := hj
      rcases (show j = 0 ∨ j = 1 ∨ j = 2 ∨ j = 3 ∨ j = 4 by omega) with rfl | rfl | rfl | rfl | rfl <;> exact hs _ (by decide +kernel)
    · have hj : j < 5 := hj
      rcases (show j = 0 ∨ j = 1 ∨ j = 2 ∨ j = 3 ∨ j = 4 by omega) with rfl | rfl | rfl | rfl | rfl <;> exact hs _ (by decide +kernel)
    · have hj : j < 4 := hj
      rcases (show j = 0 ∨ j = 1 ∨ j = 2 ∨ j = 3 by omega) with rfl | rfl | rfl | rfl <;> exact hs _ (by decide +kernel)
    · have hj : j < 4 := hj
      rcases (show j = 0 ∨ j = 1 ∨ j = 2 ∨ j = 3 by omega) with rfl | rfl | rfl | rfl <;> exact hs _ (by decide +kernel)
  · intro i j hi hj hij
    rcases (show i = 0 ∨ i = 1 ∨ i = 2 ∨ i = 3 ∨ i = 4 by omega) with rfl | rfl | rfl | rfl | rfl <;> rcases (show j = 0 ∨ j = 1 ∨ j = 2 ∨ j = 3 ∨ j = 4 by omega) with rfl | rfl | rfl | rfl | rfl <;> first | exact absurd rfl hij | exact Or.inl (hs _ (by decide +kernel)) | exact Or.inr (hs _ (by decide +kernel))
set_option maxRecDepth 100000 in
set_option maxHeartbeats 4000000 in
theorem law_start {p : Program} {e : Env} {s : State} {m : MethodId} {below : List Frame} {meth : Method} {c : Code} (l : Launch) {b L : Nat} {sx : Nat → Int32} (wz : Wd) (hf : f_L L sx w00 = some (1, wz)) (C0 : lw_At p s m meth c b L sx) : W p l e room_1 s m #[Value.ref b] below meth c s.heap [] 0 0 (lw_Z below #[Value.ref b] s) (entryFrame m ([Value.ref b] : List Value).toArray 4) := by
  obtain ⟨hx, hb, hr, hml, hown, hts, hX, hbl, hlocks, hgv⟩ := id C0
  have hs := flat_of_before _ hgv
  have htb : ∀ w ∈ tb, w.before #[Value.ref b] s = true := fun w h => hts w (tb_lw h)
  have hA : ∀ a : Nat, a < s.heap.size → ¬ (fun q : Nat => s.heap.size ≤ q) a := fun a h => Nat.not_le.mpr h
  -- the classes
  have hcl : ∀ t : Nat, ∃ q : ClassId × (Nat → Nat), t < 13 → u_Kn s (cN t) (cT t) (fn t) q.1 q.2 := fun t => by
    by_cases ht : t < 13
    · obtain ⟨cC, iS, h⟩ := u_known (n := fn t) htb (ce_all t ht).2.1 (htb _ (ins_all t ht))
      exact ⟨(cC, iS), fun _ => h⟩
    · exact ⟨(default, fun _ => 0), fun h => absurd h ht⟩
  obtain ⟨fD, hD⟩ := Classical.axiomOfChoice hcl
  -- the array classes
  obtain ⟨cB, kB, oB, b1, b2, b3⟩ := Cond.arrayClass_spec (htb _ arr_byte)
  obtain ⟨cI, kI, oI, i1, i2, i3⟩ := Cond.arrayClass_spec (htb _ arr_int)
  obtain ⟨cZ, kZ, oZ, z1, z2, z3⟩ := Cond.arrayClass_spec (htb _ arr_boolean)
  have hG : va_AO "GrindMill$Goods" s := va_AO.of (hts _ (List.mem_of_getElem? (i := 58 + 79) (by decide +kernel)))
  have hH : va_AO "GrindMill$House" s := va_AO.of (hts _ (List.mem_of_getElem? (i := 58 + 208) (by decide +kernel)))
  have hPl : va_AO "GrindMill$Plain" s := va_AO.of (hts _ (List.mem_of_getElem? (i := 58 + 30) (by decide +kernel)))
  have hII0 : (Cond.arrayOver (.array .int)).before #[Value.ref b] s = true := hts (Cond.arrayOver (.array .int)) (List.mem_of_getElem? (i := 58 + 239) (by decide +kernel))
  have hII : AOA .int s := hII0
  obtain ⟨oG, cG, kG, g1, -, g2, g3, g4⟩ := Cond.arrayOver_spec hG
  obtain ⟨oH, cH, kH, h1, -, h2, h3, h4⟩ := Cond.arrayOver_spec hH
  obtain ⟨oP, cP, kP, p1, -, p2, p3, p4⟩ := Cond.arrayOver_spec hPl
  obtain ⟨oJ, cJ, kJ, j1, j2, j3, j4⟩ := Cond.arrayOver_specA hII
  obtain ⟨adK, adV, hSt, hStr⟩ := st_strings (A := fun q : Nat => s.heap.size ≤ q) hgv hA
  let g : Gv := ((fun t => (fD t).1, fun t => (fD t).2), (fun t => if t = 13 then cB else if t = 14 then cI else if t = 15 then cZ else if t = 16 then cG else if t = 17 then cH else if t = 18 then cP else cJ), s.heap.size, adK, adV)
  have hK : va_K (gD g) vwCl (tysG g) s := by
    refine ⟨fun t q hq => ?_, fun k q hk => ?_⟩
    · have ht : t < 13 := (List.getElem?_eq_some_iff.mp hq).1
      have hq2 := (ce_all t ht).1
      have e : q = (cN t, cT t, fn t) := Option.some.inj (hq.symm.trans hq2)
      subst e
      exact hD t ht
    · have hk7 : k < 7 := (List.getElem?_eq_some_iff.mp hk).1
      rcases (show k = 0 ∨ k = 1 ∨ k = 2 ∨ k = 3 ∨ k = 4 ∨ k = 5 ∨ k = 6 by omega) with rfl | rfl | rfl | rfl | rfl | rfl | rfl <;> cases hk
      · exact ⟨fun n z => ⟨fun k h => (by cases h), kB, b2, oB, b3⟩, b1⟩
      · exact ⟨fun n z => ⟨fun k h => (by cases h), kI, i2, oI, i3⟩, i1⟩
      · exact ⟨fun n z => ⟨fun k h => (by cases h), kZ, z2, oZ, z3⟩, z1⟩
      · exact ⟨fun n z => ⟨fun k h => (by cases h), kG, g2, oG, g3⟩, kG, oG, g2, g3, g1, g4⟩
      · exact ⟨fun n z => ⟨fun k h => (by cases h), kH, h2, oH, h3⟩, kH, oH, h2, h3, h1, h4⟩
      · exact ⟨fun n z => ⟨fun k h => (by cases h), kP, p2, oP, p3⟩, kP, oP, p2, p3, p1, p4⟩
      · exact ⟨fun n z => ⟨fun k h => (by cases h), kJ, j2, oJ, j3⟩, j4⟩
  have hSW : SW g s := by
    refine ⟨fun c hc => va_Nw.of (nw_tab (List.mem_filter.mp hc).2) (hts c (List.mem_filter.mp hc).1), hSt, fun j hj => ?_, ?_, ?_, hG, hH, hPl, hII⟩
    · refine vk_R.of (A := #[Value.ref b]) ?_ (hStr j hj)
      rcases (show j = 0 ∨ j = 1 ∨ j = 2 ∨ j = 3 ∨ j = 4 by omega) with rfl | rfl | rfl | rfl | rfl
      · exact hts _ (List.mem_of_getElem? (i := 58 + 359) (by decide +kernel))
      · exact hts _ (List.mem_of_getElem? (i := 58 + 431) (by decide +kernel))
      · exact hts _ (List.mem_of_getElem? (i := 58 + 437) (by decide +kernel))
      · exact hts _ (List.mem_of_getElem? (i := 58 + 438) (by decide +kernel))
      · exact hts _ (List.mem_of_getElem? (i := 58 + 439) (by decide +kernel))
    · exact va_Zof (args := #[Value.ref b]) (hts _ (List.mem_of_getElem? (i := 58 + 373) (by decide +kernel))) (hts (.initialized "java/lang/String") (by decide +kernel)) (va_eqi (hs _ (by decide +kernel))) hA
    · exact va_Zqof (args := #[Value.ref b]) (hts _ (List.mem_of_getElem? (i := 58 + 389) (by decide +kernel))) (hts (.initialized "jdk/internal/util/Preconditions") (by decide +kernel)) (hs _ (by decide +kernel)) hA
  let X : Xt := (p, l, e, room_1, s, m, #[Value.ref b], below, meth, c, g, 4)
  have C : Ok X RL cL_law 4 11 390 600000 7302250 := ⟨hx, hb, hml, hown, htb, hlocks, rfl, rfl, rfl, rfl, rfl⟩
  have K := law_walk (X := X) hX hbl (Nat.not_le.mpr hbl) C rfl rfl hr hlocks rfl w00 wz hf
  have hl := lv_entry ([.ref b]) (n := 4) (Nat.le_of_ble_eq_true rfl)
  rw [lg_entry_eq]
  refine K s.heap [] _ ⟨hK, ?_, va_S.rf, rfl, Nat.le_refl _, hSW⟩ hl
  intro k q hk
  exact absurd (lay_at hk).1 (Nat.not_lt_zero _)
