section P4
variable {w : Wd} {h : Nat} {S : Nat → Int32} {K : Nat}
theorem pasG_g {Hd : Int32} {q : Nat → Int32} {g : Nat} {y : Int32} : pasG Hd q g y g = q g + sty Hd q y := by unfold pasG; rw [if_pos rfl]
theorem pasG_12 {Hd : Int32} {q : Nat → Int32} {g : Nat} {y : Int32} (hg : g < 6) : pasG Hd q g y 12 = q 12 + (y - sty Hd q y) := by unfold pasG; rw [if_neg (by omega), if_pos rfl]
theorem pasG_14 {Hd : Int32} {q : Nat → Int32} {g : Nat} {y : Int32} (hg : g < 6) : pasG Hd q g y 14 = q 14 + 1 := by unfold pasG; rw [if_neg (by omega), if_neg (by decide), if_pos rfl]
theorem pasG_o {Hd : Int32} {q : Nat → Int32} {g j : Nat} {y : Int32} (h1 : j ≠ g) (h2 : j ≠ 12) (h3 : j ≠ 14) : pasG Hd q g y j = q j := by unfold pasG; rw [if_neg h1, if_neg h2, if_neg h3]
theorem pasN_14 {q : Nat → Int32} : pasN q 14 = q 14 + 1 := rfl
theorem pasN_o {q : Nat → Int32} {j : Nat} (h3 : j ≠ 14) : pasN q j = q j := by unfold pasN; rw [if_neg h3]
theorem sty_0 (I : Iv S K) : sty (S 17) S 0 = 0 := by
  obtain ⟨Hn, hH, eH⟩ := I.2.2.2.2.1
  obtain ⟨b, hb, e1, e2⟩ := I.pv.room eH hH
  unfold sty
  rw [e2]
  by_cases h1 : (0 : Int32) < nI (Hn - b)
  · rw [if_pos h1]
  · rw [if_neg h1]
    have h2 : ¬ 0 < Hn - b := fun q => h1 (nI_lt (a := 0) q (by omega))
    rw [show Hn - b = 0 by omega]
    rfl
theorem passHour_row (H : HS w h) (R : HR (wI w) h S) (I : Iv S K) : ∃ w', f_X2_passHour h w = some (manyO S S (S 15), w') ∧ Fr (hset h) w w' ∧ HR (wI w') h (pasO S (S 17) S (S 15)) := by
  obtain ⟨⟨r3, r4, r5, r6, r7, r8, r9, r10, r11⟩, RG, ⟨q1, q2, q3, q4⟩, RP⟩ := id R
  have hn := I.n.2
  have hm : wI w h 4 = nI (nn S) := by rw [r4]; exact I.n.1
  have a0 : hset h h := ⟨by omega, by omega⟩
  unfold f_X2_passHour
  rcases I.pv.2.2.1 with hx | ⟨g, hg, hx⟩
  · rw [gI_t H.o, r7, gI_t H.o, r9, calV_t H.o, groundBy_none H R I (by rw [hx]; exact m1_no hn), cal_t, gI_t H.o, r5, calV_t H.o, allB_row H R I, cal_t, nm_t, mmin_sty rfl, sty_0 I, gI_t H.o, r7, calV_t H.o, has_no H hn hm (by rw [hx]; exact m1_no hn), cal_t, if_pos rfl]
    unfold f_X2_passHour_56
    simp only [gI_t, pI_t, isO_sI, H.o]
    have em : manyO S S (S 15) = 0 := by unfold manyO; rw [if_pos hx]
    have ep : pasO S (S 17) S (S 15) = pasN S := by unfold pasO; rw [if_pos hx]
    rw [em, ep]
    refine ⟨_, rfl, (Fr.sI a0).tr (Fr.sI a0), ⟨?_, ?_, ⟨?_, ?_, ?_, ?_⟩, ?_⟩⟩
    · refine ⟨?_, ?_, ?_, ?_, ?_, ?_, ?_, ?_, ?_⟩
      · simpa [wI_sI, pasN] using r3
      · simpa [wI_sI, pasN] using r4
      · simpa [wI_sI, pasN] using r5
      · simpa [wI_sI, pasN] using r6
      · simpa [wI_sI, pasN] using r7
      · simpa [wI_sI, pasN] using r8
      · simpa [wI_sI, pasN] using r9
      · simpa [wI_sI, pasN] using r10
      · simpa [wI_sI, pasN] using r11
    · intro g hg
      have hg' : g < nn S := hg
      have e1 : h + 9 + g ≠ h := by omega
      simp only [wI_sI, e1, false_and, if_false]
      rw [pasN_o (by omega), pasN_o (by omega), pasN_o (by omega), pasN_o (by omega), pasN_o (by omega)]
      exact RG g hg'
    · simpa [wI_sI, pasN] using q1
    · simpa [wI_sI, pasN] using q2
    · intro i hi
      have hi' : i < gn S := hi
      simp only [wI_sI, show h + 4 ≠ h by omega, show h + 5 ≠ h by omega, false_and, if_false]
      rw [pasN_o (by omega), pasN_o (by omega)]
      exact q3 i hi'
    · intro i hi
      have hi' : i < 4 * tn S := hi
      simp only [wI_sI, show h + 6 ≠ h by omega, false_and, if_false]
      rw [pasN_o (by omega)]
      exact q4 i hi'
    · intro p hp
      have hp' : p < un S := hp
      obtain ⟨a1, a2, a3, a4, a5, a6⟩ := RP p hp'
      simp only [HP, wI_sI, show h + 2 ≠ h by omega, false_and, if_false]
      refine ⟨?_, ?_, ?_, ?_, ?_, fun g hg => ?_⟩
      · rw [pasN_o (by omega)]; exact a1
      · rw [pasN_o (by omega)]; exact a2
      · rw [pasN_o (by omega)]; exact a3
      · rw [pasN_o (by omega)]; exact a4
      · rw [pasN_o (by omega)]; exact a5
      · rw [pasN_o (by omega), pasN_o (by omega)]; exact a6 g hg
  · have h6 : g < 6 := by omega
    rw [gI_t H.o, r7, gI_t H.o, r9, calV_t H.o, hx, groundBy_row H R I hg, cal_t, gI_t H.o, r5, calV_t H.o, allB_row H R I, cal_t, nm_t, mmin_sty rfl, gI_t H.o, r7, calV_t H.o, hx, has_yes H hn hm hg, cal_t, if_neg (by decide), gR_t H.o, H.r0, Option.bind_some, gI_t H.o, r7, hx, lR_t H.o1 (inb_of H.n1 h6 (by decide)), nI_clamp (by omega), H.rg h6, Option.bind_some, gI_t (H.og h6), (RG g hg).2.2.2.1, pI_t (H.og h6)]
    unfold f_X2_passHour_56
    simp only [gI_t, pI_t, isO_sI, H.o]
    have em : manyO S S (nI g) = mny S S g := manyO_g (by omega)
    have ep : pasO S (S 17) S (nI g) = pasG (S 17) S g (mny S S g) := pasO_g (by omega)
    rw [em, ep]
    have ag : hset h (h + 9 + g) := ⟨by omega, by omega⟩
    have ne : h ≠ h + 9 + g := by omega
    have ne' : h + 9 + g ≠ h := by omega
    have en : nn (pasG (S 17) S g (mny S S g)) = nn S := by unfold nn; rw [pasG_o (by omega) (by decide) (by decide)]
    have eg : gn (pasG (S 17) S g (mny S S g)) = gn S := by unfold gn; rw [pasG_o (by omega) (by decide) (by decide)]
    have et : tn (pasG (S 17) S g (mny S S g)) = tn S := by unfold tn; rw [pasG_o (by omega) (by decide) (by decide)]
    have eu : un (pasG (S 17) S g (mny S S g)) = un S := by unfold un; rw [pasG_o (by omega) (by decide) (by decide)]
    refine ⟨_, rfl, (Fr.sI ag).tr ((Fr.sI a0).tr (Fr.sI a0)), ⟨?_, ?_, ⟨?_, ?_, ?_, ?_⟩, ?_⟩⟩
    · refine ⟨?_, ?_, ?_, ?_, ?_, ?_, ?_, ?_, ?_⟩
      · rw [pasG_o (by omega) (by decide) (by decide)]; simpa [wI_sI, ne] using r3
      · rw [pasG_o (by omega) (by decide) (by decide)]; simpa [wI_sI, ne] using r4
      · rw [pasG_o (by omega) (by decide) (by decide)]; simpa [wI_sI, ne] using r5
      · rw [pasG_o (by omega) (by decide) (by decide)]; simpa [wI_sI, ne] using r6
      · rw [pasG_o (by omega) (by decide) (by decide)]; simpa [wI_sI, ne] using r7
      · rw [pasG_o (by omega) (by decide) (by decide)]; simpa [wI_sI, ne] using r8
      · rw [pasG_14 h6]; simp [wI_sI, ne, r9]
      · rw [pasG_12 h6]; simp [wI_sI, ne, r10]; rfl
      · rw [pasG_o (by omega) (by decide) (by decide)]; simpa [wI_sI, ne] using r11
    · intro j hj
      rw [en] at hj
      have e1 : h + 9 + j ≠ h := by omega
      obtain ⟨g1, g2, g3, g4, g5⟩ := RG j hj
      by_cases hjg : j = g
      · subst hjg
        simp only [wI_sI, e1, false_and, if_false, true_and]
        rw [pasG_o (by omega) (by omega) (by omega), pasG_o (by omega) (by omega) (by omega), pasG_o (by omega) (by omega) (by omega), pasG_g, pasG_o (by omega) (by omega) (by omega)]
        exact ⟨by simpa using g1, by simpa using g2, by simpa using g3, by simp; rfl, by simpa using g5⟩
      · have e2 : h + 9 + j ≠ h + 9 + g := by omega
        simp only [wI_sI, e1, e2, false_and, if_false]
        rw [pasG_o (by omega) (by omega) (by omega), pasG_o (by omega) (by omega) (by omega), pasG_o (by omega) (by omega) (by omega), pasG_o (by omega) (by omega) (by omega), pasG_o (by omega) (by omega) (by omega)]
        exact ⟨g1, g2, g3, g4, g5⟩
    · rw [pasG_o (by omega) (by decide) (by decide)]
      simpa [wI_sI, show h + 3 ≠ h + 9 + g by omega] using q1
    · rw [pasG_o (by omega) (by decide) (by decide)]
      simpa [wI_sI, show h + 3 ≠ h + 9 + g by omega] using q2
    · intro i hi
      rw [eg] at hi
      have := I.2.1.2
      simp only [wI_sI, show h + 4 ≠ h by omega, show h + 5 ≠ h by omega, show h + 4 ≠ h + 9 + g by omega, show h + 5 ≠ h + 9 + g by omega, false_and, if_false]
      rw [pasG_o (by omega) (by omega) (by omega), pasG_o (by omega) (by omega) (by omega)]
      exact q3 i hi
    · intro i hi
      rw [et] at hi
      simp only [wI_sI, show h + 6 ≠ h by omega, show h + 6 ≠ h + 9 + g by omega, false_and, if_false]
      rw [pasG_o (by omega) (by omega) (by omega)]
      exact q4 i hi
    · intro p hp
      rw [eu] at hp
      obtain ⟨a1, a2, a3, a4, a5, a6⟩ := RP p hp
      rw [en]
      simp only [HP, wI_sI, show h + 2 ≠ h by omega, show h + 2 ≠ h + 9 + g by omega, false_and, if_false]
      refine ⟨?_, ?_, ?_, ?_, ?_, fun j hj => ?_⟩
      · rw [pasG_o (by omega) (by omega) (by omega)]; exact a1
      · rw [pasG_o (by omega) (by omega) (by omega)]; exact a2
      · rw [pasG_o (by omega) (by omega) (by omega)]; exact a3
      · rw [pasG_o (by omega) (by omega) (by omega)]; exact a4
      · rw [pasG_o (by omega) (by omega) (by omega)]; exact a5
      · rw [pasG_o (by omega) (by omega) (by omega), pasG_o (by omega) (by omega) (by omega)]; exact a6 j hj
end P4
