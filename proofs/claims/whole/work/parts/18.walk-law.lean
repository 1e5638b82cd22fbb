theorem TT_saldv {M : MI} {pc : Nat} {ls st : List PV} {σ : Mem} {P : Option PV → Mem → Prop} {i v : Int} (hd : decode (miC M) pc = .ok (.iaload, 1)) (hW : miW M = true) (hln : (miX M).1 < 2147483648) (ho : 0 ≤ i ∧ i < (miX M).1) (hv : (miX M).2 i.toNat = v) (kk : TT M (pc + 1) ls (vI v :: st) σ P) : TT M pc ls (vI i :: vS :: st) σ P := by
  subst hv
  exact TT_sald hd hW hln ho kk
set_option maxRecDepth 4000 in
theorem w_L_law_18 {L : Nat} {xs : Nat → Int} (hL9 : L < 2147483648) (x3 : Int) {σ : Mem} {K : Int → Mem → Prop} (h : R32 x3 ∧ R32 ((L : Int) - 8) ∧ ((((L : Int) - 8) < x3 → K 1 σ) ∧ (¬ ((L : Int) - 8) < x3 → (0 ≤ x3 ∧ x3 < (L : Int)) ∧ R32 (xs (x3).toNat) ∧ R32 ((xs (x3).toNat) % 32) ∧ (((xs (x3).toNat) % 32) = 0 → (0 ≤ (x3 + 1) ∧ (x3 + 1) < (L : Int)) ∧ (0 ≤ (x3 + 2) ∧ (x3 + 2) < (L : Int)) ∧ (0 ≤ (x3 + 3) ∧ (x3 + 3) < (L : Int)) ∧ (0 ≤ (x3 + 4) ∧ (x3 + 4) < (L : Int)) ∧ CC m_X9_say [vR 0, vI (xs (x3 + 1).toNat), vI (xs (x3 + 2).toNat), vI (xs (x3 + 3).toNat), vI (xs (x3 + 4).toNat)] σ (PI (fun y11 s12 => CC m_X10_say [vR 80, vI (xs (x3 + 1).toNat), vI (xs (x3 + 2).toNat), vI (xs (x3 + 3).toNat), vI (xs (x3 + 4).toNat)] s12 (PI (fun y13 s14 => R32 y11 ∧ R32 y13 ∧ ((y11 = y13 → TT (mLaw L xs) 18 [vS, vR 0, vR 80, vI (x3 + 8)] [] s14 (PI K)) ∧ (¬ y11 = y13 → K 0 s14))))))) ∧ (((xs (x3).toNat) % 32) = 1 → (0 ≤ (x3 + 1) ∧ (x3 + 1) < (L : Int)) ∧ (0 ≤ (x3 + 2) ∧ (x3 + 2) < (L : Int)) ∧ CC m_X9_forget [vR 0, vI (xs (x3 + 1).toNat), vI (xs (x3 + 2).toNat)] σ (PI (fun y20 s21 => CC m_X10_forget [vR 80, vI (xs (x3 + 1).toNat), vI (xs (x3 + 2).toNat)] s21 (PI (fun y22 s23 => R32 y20 ∧ R32 y22 ∧ ((y20 = y22 → TT (mLaw L xs) 18 [vS, vR 0, vR 80, vI (x3 + 8)] [] s23 (PI K)) ∧ (¬ y20 = y22 → K 0 s23))))))) ∧ (((xs (x3).toNat) % 32) = 2 → (0 ≤ (x3 + 1) ∧ (x3 + 1) < (L : Int)) ∧ (0 ≤ (x3 + 2) ∧ (x3 + 2) < (L : Int)) ∧ CC m_X9_kind [vR 0, vI (xs (x3 + 1).toNat), vI (xs (x3 + 2).toNat)] σ (PI (fun y29 s30 => CC m_X10_kind [vR 80, vI (xs (x3 + 1).toNat), vI (xs (x3 + 2).toNat)] s30 (PI (fun y31 s32 => R32 y29 ∧ R32 y31 ∧ ((y29 = y31 → TT (mLaw L xs) 18 [vS, vR 0, vR 80, vI (x3 + 8)] [] s32 (PI K)) ∧ (¬ y29 = y31 → K 0 s32))))))) ∧ (((xs (x3).toNat) % 32) = 3 → (0 ≤ (x3 + 1) ∧ (x3 + 1) < (L : Int)) ∧ (0 ≤ (x3 + 2) ∧ (x3 + 2) < (L : Int)) ∧ (0 ≤ (x3 + 3) ∧ (x3 + 3) < (L : Int)) ∧ CC m_X9_row [vR 0, vI (xs (x3 + 1).toNat), vI (xs (x3 + 2).toNat), vI (xs (x3 + 3).toNat)] σ (PI (fun y39 s40 => CC m_X10_row [vR 80, vI (xs (x3 + 1).toNat), vI (xs (x3 + 2).toNat), vI (xs (x3 + 3).toNat)] s40 (PI (fun y41 s42 => R32 y39 ∧ R32 y41 ∧ ((y39 = y41 → TT (mLaw L xs) 18 [vS, vR 0, vR 80, vI (x3 + 8)] [] s42 (PI K)) ∧ (¬ y39 = y41 → K 0 s42))))))) ∧ (((xs (x3).toNat) % 32) = 4 → (0 ≤ (x3 + 1) ∧ (x3 + 1) < (L : Int)) ∧ (0 ≤ (x3 + 2) ∧ (x3 + 2) < (L : Int)) ∧ (0 ≤ (x3 + 3) ∧ (x3 + 3) < (L : Int)) ∧ R32 (xs (x3 + 3).toNat) ∧ (0 ≤ (x3 + 4) ∧ (x3 + 4) < (L : Int)) ∧ R32 (xs (x3 + 4).toNat) ∧ CC m_X9_at [vR 0, vI (xs (x3 + 1).toNat), vI (xs (x3 + 2).toNat), vI (if (xs (x3 + 3).toNat) = 0 then 0 else 1 : Int), vI (if (xs (x3 + 4).toNat) = 0 then 0 else 1 : Int)] σ (PI (fun y56 s57 => CC m_X10_at [vR 80, vI (xs (x3 + 1).toNat), vI (xs (x3 + 2).toNat), vI (if (xs (x3 + 3).toNat) = 0 then 0 else 1 : Int), vI (if (xs (x3 + 4).toNat) = 0 then 0 else 1 : Int)] s57 (PI (fun y62 s63 => R32 y56 ∧ R32 y62 ∧ ((y56 = y62 → TT (mLaw L xs) 18 [vS, vR 0, vR 80, vI (x3 + 8)] [] s63 (PI K)) ∧ (¬ y56 = y62 → K 0 s63))))))) ∧ (((xs (x3).toNat) % 32) = 5 → (0 ≤ (x3 + 1) ∧ (x3 + 1) < (L : Int)) ∧ (0 ≤ (x3 + 2) ∧ (x3 + 2) < (L : Int)) ∧ CC m_X9_there [vR 0, vI (xs (x3 + 1).toNat), vI (xs (x3 + 2).toNat)] σ (PI (fun y69 s70 => CC m_X10_there [vR 80, vI (xs (x3 + 1).toNat), vI (xs (x3 + 2).toNat)] s70 (PI (fun y71 s72 => R32 y69 ∧ R32 y71 ∧ ((y69 = y71 → TT (mLaw L xs) 18 [vS, vR 0, vR 80, vI (x3 + 8)] [] s72 (PI K)) ∧ (¬ y69 = y71 → K 0 s72))))))) ∧ (((xs (x3).toNat) % 32) = 6 → CC m_X9_mended [vR 0] σ (PI (fun y76 s77 => CC m_X10_mended [vR 80] s77 (PI (fun y78 s79 => R32 y76 ∧ R32 y78 ∧ ((y76 = y78 → TT (mLaw L xs) 18 [vS, vR 0, vR 80, vI (x3 + 8)] [] s79 (PI K)) ∧ (¬ y76 = y78 → K 0 s79))))))) ∧ (((xs (x3).toNat) % 32) = 7 → (0 ≤ (x3 + 1) ∧ (x3 + 1) < (L : Int)) ∧ (0 ≤ (x3 + 2) ∧ (x3 + 2) < (L : Int)) ∧ (0 ≤ (x3 + 3) ∧ (x3 + 3) < (L : Int)) ∧ (0 ≤ (x3 + 4) ∧ (x3 + 4) < (L : Int)) ∧ (0 ≤ (x3 + 5) ∧ (x3 + 5) < (L : Int)) ∧ CC m_X9_inside [vR 0, vI (xs (x3 + 1).toNat), vI (xs (x3 + 2).toNat), vI (xs (x3 + 3).toNat), vI (xs (x3 + 4).toNat), vI (xs (x3 + 5).toNat)] σ (PI (fun y88 s89 => CC m_X10_inside [vR 80, vI (xs (x3 + 1).toNat), vI (xs (x3 + 2).toNat), vI (xs (x3 + 3).toNat), vI (xs (x3 + 4).toNat), vI (xs (x3 + 5).toNat)] s89 (PI (fun y90 s91 => R32 y88 ∧ R32 y90 ∧ ((y88 = y90 → TT (mLaw L xs) 18 [vS, vR 0, vR 80, vI (x3 + 8)] [] s91 (PI K)) ∧ (¬ y88 = y90 → K 0 s91))))))) ∧ (((xs (x3).toNat) % 32) = 8 → (0 ≤ (x3 + 1) ∧ (x3 + 1) < (L : Int)) ∧ (0 ≤ (x3 + 2) ∧ (x3 + 2) < (L : Int)) ∧ (0 ≤ (x3 + 3) ∧ (x3 + 3) < (L : Int)) ∧ (0 ≤ (x3 + 4) ∧ (x3 + 4) < (L : Int)) ∧ (0 ≤ (x3 + 5) ∧ (x3 + 5) < (L : Int)) ∧ (0 ≤ (x3 + 6) ∧ (x3 + 6) < (L : Int)) ∧ CC m_X9_who [vR 0, vI (xs (x3 + 1).toNat), vI (xs (x3 + 2).toNat), vI (xs (x3 + 3).toNat), vI (xs (x3 + 4).toNat), vI (xs (x3 + 5).toNat), vI (xs (x3 + 6).toNat)] σ (PI (fun y101 s102 => CC m_X10_who [vR 80, vI (xs (x3 + 1).toNat), vI (xs (x3 + 2).toNat), vI (xs (x3 + 3).toNat), vI (xs (x3 + 4).toNat), vI (xs (x3 + 5).toNat), vI (xs (x3 + 6).toNat)] s102 (PI (fun y103 s104 => R32 y101 ∧ R32 y103 ∧ ((y101 = y103 → TT (mLaw L xs) 18 [vS, vR 0, vR 80, vI (x3 + 8)] [] s104 (PI K)) ∧ (¬ y101 = y103 → K 0 s104))))))) ∧ (((xs (x3).toNat) % 32) = 9 → (0 ≤ (x3 + 1) ∧ (x3 + 1) < (L : Int)) ∧ (0 ≤ (x3 + 2) ∧ (x3 + 2) < (L : Int)) ∧ (0 ≤ (x3 + 3) ∧ (x3 + 3) < (L : Int)) ∧ (0 ≤ (x3 + 4) ∧ (x3 + 4) < (L : Int)) ∧ (0 ≤ (x3 + 5) ∧ (x3 + 5) < (L : Int)) ∧ CC m_X9_visits [vR 0, vI (xs (x3 + 1).toNat), vI (xs (x3 + 2).toNat), vI (xs (x3 + 3).toNat), vI (xs (x3 + 4).toNat), vI (xs (x3 + 5).toNat)] σ (PI (fun y113 s114 => CC m_X10_visits [vR 80, vI (xs (x3 + 1).toNat), vI (xs (x3 + 2).toNat), vI (xs (x3 + 3).toNat), vI (xs (x3 + 4).toNat), vI (xs (x3 + 5).toNat)] s114 (PI (fun y115 s116 => R32 y113 ∧ R32 y115 ∧ ((y113 = y115 → TT (mLaw L xs) 18 [vS, vR 0, vR 80, vI (x3 + 8)] [] s116 (PI K)) ∧ (¬ y113 = y115 → K 0 s116))))))) ∧ (((xs (x3).toNat) % 32) = 10 → (0 ≤ (x3 + 1) ∧ (x3 + 1) < (L : Int)) ∧ (0 ≤ (x3 + 2) ∧ (x3 + 2) < (L : Int)) ∧ (0 ≤ (x3 + 3) ∧ (x3 + 3) < (L : Int)) ∧ (0 ≤ (x3 + 4) ∧ (x3 + 4) < (L : Int)) ∧ (0 ≤ (x3 + 5) ∧ (x3 + 5) < (L : Int)) ∧ (0 ≤ (x3 + 6) ∧ (x3 + 6) < (L : Int)) ∧ (0 ≤ (x3 + 7) ∧ (x3 + 7) < (L : Int)) ∧ R32 (xs (x3 + 7).toNat) ∧ CC m_X9_visit [vR 0, vI (xs (x3 + 1).toNat), vI (xs (x3 + 2).toNat), vI (xs (x3 + 3).toNat), vI (xs (x3 + 4).toNat), vI (xs (x3 + 5).toNat), vI (xs (x3 + 6).toNat), vI (if (xs (x3 + 7).toNat) = 0 then 0 else 1 : Int)] σ (PI (fun y130 s131 => CC m_X10_visit [vR 80, vI (xs (x3 + 1).toNat), vI (xs (x3 + 2).toNat), vI (xs (x3 + 3).toNat), vI (xs (x3 + 4).toNat), vI (xs (x3 + 5).toNat), vI (xs (x3 + 6).toNat), vI (if (xs (x3 + 7).toNat) = 0 then 0 else 1 : Int)] s131 (PI (fun y134 s135 => R32 y130 ∧ R32 y134 ∧ ((y130 = y134 → TT (mLaw L xs) 18 [vS, vR 0, vR 80, vI (x3 + 8)] [] s135 (PI K)) ∧ (¬ y130 = y134 → K 0 s135))))))) ∧ (((xs (x3).toNat) % 32) = 11 → (0 ≤ (x3 + 1) ∧ (x3 + 1) < (L : Int)) ∧ (0 ≤ (x3 + 2) ∧ (x3 + 2) < (L : Int)) ∧ (0 ≤ (x3 + 3) ∧ (x3 + 3) < (L : Int)) ∧ (0 ≤ (x3 + 4) ∧ (x3 + 4) < (L : Int)) ∧ R32 (xs (x3 + 4).toNat) ∧ CC m_X9_far [vR 0, vI (xs (x3 + 1).toNat), vI (xs (x3 + 2).toNat), vI (xs (x3 + 3).toNat), vI (if (xs (x3 + 4).toNat) = 0 then 0 else 1 : Int)] σ (PJ (fun y146 s147 => CC m_X10_far [vR 80, vI (xs (x3 + 1).toNat), vI (xs (x3 + 2).toNat), vI (xs (x3 + 3).toNat), vI (if (xs (x3 + 4).toNat) = 0 then 0 else 1 : Int)] s147 (PJ (fun y150 s151 => R64 y146 ∧ R64 y150 ∧ ((y146 = y150 → TT (mLaw L xs) 18 [vS, vR 0, vR 80, vI (x3 + 8)] [] s151 (PI K)) ∧ (¬ y146 = y150 → K 0 s151))))))) ∧ (((xs (x3).toNat) % 32) = 12 → (0 ≤ (x3 + 1) ∧ (x3 + 1) < (L : Int)) ∧ (0 ≤ (x3 + 2) ∧ (x3 + 2) < (L : Int)) ∧ (0 ≤ (x3 + 3) ∧ (x3 + 3) < (L : Int)) ∧ CC m_X9_nearest [vR 0, vI (xs (x3 + 1).toNat), vI (xs (x3 + 2).toNat), vI (xs (x3 + 3).toNat)] σ (PI (fun y158 s159 => CC m_X10_nearest [vR 80, vI (xs (x3 + 1).toNat), vI (xs (x3 + 2).toNat), vI (xs (x3 + 3).toNat)] s159 (PI (fun y160 s161 => R32 y158 ∧ R32 y160 ∧ ((y158 = y160 → TT (mLaw L xs) 18 [vS, vR 0, vR 80, vI (x3 + 8)] [] s161 (PI K)) ∧ (¬ y158 = y160 → K 0 s161))))))) ∧ (((xs (x3).toNat) % 32) = 13 → (0 ≤ (x3 + 1) ∧ (x3 + 1) < (L : Int)) ∧ (0 ≤ (x3 + 2) ∧ (x3 + 2) < (L : Int)) ∧ (0 ≤ (x3 + 3) ∧ (x3 + 3) < (L : Int)) ∧ CC m_X9_meetings [vR 0, vI (xs (x3 + 1).toNat), vI (xs (x3 + 2).toNat), vI (xs (x3 + 3).toNat)] σ (PI (fun y168 s169 => CC m_X10_meetings [vR 80, vI (xs (x3 + 1).toNat), vI (xs (x3 + 2).toNat), vI (xs (x3 + 3).toNat)] s169 (PI (fun y170 s171 => R32 y168 ∧ R32 y170 ∧ ((y168 = y170 → TT (mLaw L xs) 18 [vS, vR 0, vR 80, vI (x3 + 8)] [] s171 (PI K)) ∧ (¬ y168 = y170 → K 0 s171))))))) ∧ (((xs (x3).toNat) % 32) = 14 → (0 ≤ (x3 + 1) ∧ (x3 + 1) < (L : Int)) ∧ (0 ≤ (x3 + 2) ∧ (x3 + 2) < (L : Int)) ∧ (0 ≤ (x3 + 3) ∧ (x3 + 3) < (L : Int)) ∧ (0 ≤ (x3 + 4) ∧ (x3 + 4) < (L : Int)) ∧ R32 (xs (x3 + 4).toNat) ∧ CC m_X9_longest [vR 0, vI (xs (x3 + 1).toNat), vI (xs (x3 + 2).toNat), vI (xs (x3 + 3).toNat), vI (if (xs (x3 + 4).toNat) = 0 then 0 else 1 : Int)] σ (PI (fun y182 s183 => CC m_X10_longest [vR 80, vI (xs (x3 + 1).toNat), vI (xs (x3 + 2).toNat), vI (xs (x3 + 3).toNat), vI (if (xs (x3 + 4).toNat) = 0 then 0 else 1 : Int)] s183 (PI (fun y186 s187 => R32 y182 ∧ R32 y186 ∧ ((y182 = y186 → TT (mLaw L xs) 18 [vS, vR 0, vR 80, vI (x3 + 8)] [] s187 (PI K)) ∧ (¬ y182 = y186 → K 0 s187))))))) ∧ (((xs (x3).toNat) % 32) = 15 → (0 ≤ (x3 + 1) ∧ (x3 + 1) < (L : Int)) ∧ CC m_X9_pages [vR 0, vI (xs (x3 + 1).toNat)] σ (PI (fun y192 s193 => CC m_X10_pages [vR 80, vI (xs (x3 + 1).toNat)] s193 (PI (fun y194 s195 => R32 y192 ∧ R32 y194 ∧ ((y192 = y194 → TT (mLaw L xs) 18 [vS, vR 0, vR 80, vI (x3 + 8)] [] s195 (PI K)) ∧ (¬ y192 = y194 → K 0 s195))))))) ∧ (((xs (x3).toNat) % 32) = 16 → CC m_X9_size [vR 0] σ (PJ (fun y199 s200 => CC m_X10_size [vR 80] s200 (PJ (fun y201 s202 => R64 y199 ∧ R64 y201 ∧ ((y199 = y201 → TT (mLaw L xs) 18 [vS, vR 0, vR 80, vI (x3 + 8)] [] s202 (PI K)) ∧ (¬ y199 = y201 → K 0 s202))))))) ∧ (((xs (x3).toNat) % 32) = 17 → (0 ≤ (x3 + 1) ∧ (x3 + 1) < (L : Int)) ∧ (0 ≤ (x3 + 2) ∧ (x3 + 2) < (L : Int)) ∧ (0 ≤ (x3 + 3) ∧ (x3 + 3) < (L : Int)) ∧ (0 ≤ (x3 + 4) ∧ (x3 + 4) < (L : Int)) ∧ (0 ≤ (x3 + 5) ∧ (x3 + 5) < (L : Int)) ∧ (0 ≤ (x3 + 6) ∧ (x3 + 6) < (L : Int)) ∧ (0 ≤ (x3 + 7) ∧ (x3 + 7) < (L : Int)) ∧ R32 (xs (x3 + 7).toNat) ∧ CC m_X9_opens [vR 0, vI (xs (x3 + 1).toNat), vI (xs (x3 + 2).toNat), vI (xs (x3 + 3).toNat), vI (xs (x3 + 4).toNat), vI (xs (x3 + 5).toNat), vI (xs (x3 + 6).toNat), vI (if (xs (x3 + 7).toNat) = 0 then 0 else 1 : Int)] σ (PI (fun y216 s217 => CC m_X10_opens [vR 80, vI (xs (x3 + 1).toNat), vI (xs (x3 + 2).toNat), vI (xs (x3 + 3).toNat), vI (xs (x3 + 4).toNat), vI (xs (x3 + 5).toNat), vI (xs (x3 + 6).toNat), vI (if (xs (x3 + 7).toNat) = 0 then 0 else 1 : Int)] s217 (PI (fun y220 s221 => R32 y216 ∧ R32 y220 ∧ ((y216 = y220 → TT (mLaw L xs) 18 [vS, vR 0, vR 80, vI (x3 + 8)] [] s221 (PI K)) ∧ (¬ y216 = y220 → K 0 s221))))))) ∧ (((xs (x3).toNat) % 32) = 18 → (0 ≤ (x3 + 1) ∧ (x3 + 1) < (L : Int)) ∧ (0 ≤ (x3 + 2) ∧ (x3 + 2) < (L : Int)) ∧ CC m_X9_thin [vR 0, vI (xs (x3 + 1).toNat), vI (xs (x3 + 2).toNat)] σ (PI (fun y227 s228 => CC m_X10_thin [vR 80, vI (xs (x3 + 1).toNat), vI (xs (x3 + 2).toNat)] s228 (PI (fun y229 s230 => R32 y227 ∧ R32 y229 ∧ ((y227 = y229 → TT (mLaw L xs) 18 [vS, vR 0, vR 80, vI (x3 + 8)] [] s230 (PI K)) ∧ (¬ y227 = y229 → K 0 s230))))))) ∧ (((xs (x3).toNat) % 32) = 19 → (0 ≤ (x3 + 1) ∧ (x3 + 1) < (L : Int)) ∧ (0 ≤ (x3 + 2) ∧ (x3 + 2) < (L : Int)) ∧ (0 ≤ (x3 + 3) ∧ (x3 + 3) < (L : Int)) ∧ CC m_X9_kept [vR 0, vI (xs (x3 + 1).toNat), vI (xs (x3 + 2).toNat), vI (xs (x3 + 3).toNat)] σ (PI (fun y237 s238 => CC m_X10_kept [vR 80, vI (xs (x3 + 1).toNat), vI (xs (x3 + 2).toNat), vI (xs (x3 + 3).toNat)] s238 (PI (fun y239 s240 => R32 y237 ∧ R32 y239 ∧ ((y237 = y239 → TT (mLaw L xs) 18 [vS, vR 0, vR 80, vI (x3 + 8)] [] s240 (PI K)) ∧ (¬ y237 = y239 → K 0 s240))))))) ∧ (((xs (x3).toNat) % 32) = 20 → (0 ≤ (x3 + 1) ∧ (x3 + 1) < (L : Int)) ∧ (0 ≤ (x3 + 2) ∧ (x3 + 2) < (L : Int)) ∧ CC m_X9_thinned [vR 0, vI (xs (x3 + 1).toNat), vI (xs (x3 + 2).toNat)] σ (PI (fun y246 s247 => CC m_X10_thinned [vR 80, vI (xs (x3 + 1).toNat), vI (xs (x3 + 2).toNat)] s247 (PI (fun y248 s249 => R32 y246 ∧ R32 y248 ∧ ((y246 = y248 → TT (mLaw L xs) 18 [vS, vR 0, vR 80, vI (x3 + 8)] [] s249 (PI K)) ∧ (¬ y246 = y248 → K 0 s249))))))) ∧ (((xs (x3).toNat) % 32) = 21 → (0 ≤ (x3 + 1) ∧ (x3 + 1) < (L : Int)) ∧ CC m_X9_pass [vR 0, vI (xs (x3 + 1).toNat)] σ (PI (fun y254 s255 => CC m_X10_pass [vR 80, vI (xs (x3 + 1).toNat)] s255 (PI (fun y256 s257 => R32 y254 ∧ R32 y256 ∧ ((y254 = y256 → TT (mLaw L xs) 18 [vS, vR 0, vR 80, vI (x3 + 8)] [] s257 (PI K)) ∧ (¬ y254 = y256 → K 0 s257))))))) ∧ (((xs (x3).toNat) % 32) = 22 → (0 ≤ (x3 + 1) ∧ (x3 + 1) < (L : Int)) ∧ (0 ≤ (x3 + 2) ∧ (x3 + 2) < (L : Int)) ∧ (0 ≤ (x3 + 3) ∧ (x3 + 3) < (L : Int)) ∧ (0 ≤ (x3 + 4) ∧ (x3 + 4) < (L : Int)) ∧ CC m_X9_stand [vR 0, vI (xs (x3 + 1).toNat), vI (xs (x3 + 2).toNat), vI (xs (x3 + 3).toNat), vI (xs (x3 + 4).toNat)] σ (PI (fun y265 s266 => CC m_X10_stand_ [vR 80, vI (xs (x3 + 1).toNat), vI (xs (x3 + 2).toNat), vI (xs (x3 + 3).toNat), vI (xs (x3 + 4).toNat)] s266 (PI (fun y267 s268 => R32 y265 ∧ R32 y267 ∧ ((y265 = y267 → TT (mLaw L xs) 18 [vS, vR 0, vR 80, vI (x3 + 8)] [] s268 (PI K)) ∧ (¬ y265 = y267 → K 0 s268))))))) ∧ (((xs (x3).toNat) % 32) = 23 → (0 ≤ (x3 + 1) ∧ (x3 + 1) < (L : Int)) ∧ (0 ≤ (x3 + 2) ∧ (x3 + 2) < (L : Int)) ∧ CC m_X9_changes [vR 0, vI (xs (x3 + 1).toNat), vI (xs (x3 + 2).toNat)] σ (PI (fun y274 s275 => CC m_X10_changes [vR 80, vI (xs (x3 + 1).toNat), vI (xs (x3 + 2).toNat)] s275 (PI (fun y276 s277 => R32 y274 ∧ R32 y276 ∧ ((y274 = y276 → TT (mLaw L xs) 18 [vS, vR 0, vR 80, vI (x3 + 8)] [] s277 (PI K)) ∧ (¬ y274 = y276 → K 0 s277))))))) ∧ (((xs (x3).toNat) % 32) = 24 → (0 ≤ (x3 + 1) ∧ (x3 + 1) < (L : Int)) ∧ (0 ≤ (x3 + 2) ∧ (x3 + 2) < (L : Int)) ∧ (0 ≤ (x3 + 3) ∧ (x3 + 3) < (L : Int)) ∧ CC m_X9_change [vR 0, vI (xs (x3 + 1).toNat), vI (xs (x3 + 2).toNat), vI (xs (x3 + 3).toNat)] σ (PI (fun y284 s285 => CC m_X10_change [vR 80, vI (xs (x3 + 1).toNat), vI (xs (x3 + 2).toNat), vI (xs (x3 + 3).toNat)] s285 (PI (fun y286 s287 => R32 y284 ∧ R32 y286 ∧ ((y284 = y286 → TT (mLaw L xs) 18 [vS, vR 0, vR 80, vI (x3 + 8)] [] s287 (PI K)) ∧ (¬ y284 = y286 → K 0 s287))))))) ∧ (((xs (x3).toNat) % 32) = 25 → (0 ≤ (x3 + 1) ∧ (x3 + 1) < (L : Int)) ∧ (0 ≤ (x3 + 2) ∧ (x3 + 2) < (L : Int)) ∧ CC m_X9_still [vR 0, vI (xs (x3 + 1).toNat), vI (xs (x3 + 2).toNat)] σ (PI (fun y293 s294 => CC m_X10_still [vR 80, vI (xs (x3 + 1).toNat), vI (xs (x3 + 2).toNat)] s294 (PI (fun y295 s296 => R32 y293 ∧ R32 y295 ∧ ((y293 = y295 → TT (mLaw L xs) 18 [vS, vR 0, vR 80, vI (x3 + 8)] [] s296 (PI K)) ∧ (¬ y293 = y295 → K 0 s296))))))) ∧ (((xs (x3).toNat) % 32) = 26 → (0 ≤ (x3 + 1) ∧ (x3 + 1) < (L : Int)) ∧ CC m_X9_load [vR 0, vI (xs (x3 + 1).toNat)] σ (PI (fun y301 s302 => CC m_X10_load [vR 80, vI (xs (x3 + 1).toNat)] s302 (PI (fun y303 s304 => R32 y301 ∧ R32 y303 ∧ ((y301 = y303 → TT (mLaw L xs) 18 [vS, vR 0, vR 80, vI (x3 + 8)] [] s304 (PI K)) ∧ (¬ y301 = y303 → K 0 s304))))))) ∧ (((xs (x3).toNat) % 32) = 27 → (0 ≤ (x3 + 1) ∧ (x3 + 1) < (L : Int)) ∧ CC m_X9_share [vR 0, vI (xs (x3 + 1).toNat)] σ (PI (fun y309 s310 => CC m_X10_share [vR 80, vI (xs (x3 + 1).toNat)] s310 (PI (fun y311 s312 => R32 y309 ∧ R32 y311 ∧ ((y309 = y311 → TT (mLaw L xs) 18 [vS, vR 0, vR 80, vI (x3 + 8)] [] s312 (PI K)) ∧ (¬ y309 = y311 → K 0 s312))))))) ∧ (((xs (x3).toNat) % 32) = 28 → (0 ≤ (x3 + 1) ∧ (x3 + 1) < (L : Int)) ∧ (0 ≤ (x3 + 2) ∧ (x3 + 2) < (L : Int)) ∧ CC m_X9_gets [vR 0, vI (xs (x3 + 1).toNat), vI (xs (x3 + 2).toNat)] σ (PI (fun y318 s319 => CC m_X10_gets [vR 80, vI (xs (x3 + 1).toNat), vI (xs (x3 + 2).toNat)] s319 (PI (fun y320 s321 => R32 y318 ∧ R32 y320 ∧ ((y318 = y320 → TT (mLaw L xs) 18 [vS, vR 0, vR 80, vI (x3 + 8)] [] s321 (PI K)) ∧ (¬ y318 = y320 → K 0 s321))))))) ∧ (((xs (x3).toNat) % 32) = 29 → (0 ≤ (x3 + 1) ∧ (x3 + 1) < (L : Int)) ∧ (0 ≤ (x3 + 2) ∧ (x3 + 2) < (L : Int)) ∧ (0 ≤ (x3 + 3) ∧ (x3 + 3) < (L : Int)) ∧ (0 ≤ (x3 + 4) ∧ (x3 + 4) < (L : Int)) ∧ (0 ≤ (x3 + 5) ∧ (x3 + 5) < (L : Int)) ∧ R32 (xs (x3 + 5).toNat) ∧ CC m_X9_blur [vR 0, vI (xs (x3 + 1).toNat), vI (xs (x3 + 2).toNat), vI (xs (x3 + 3).toNat), vI (xs (x3 + 4).toNat), vI (if (xs (x3 + 5).toNat) = 0 then 0 else 1 : Int)] σ (PI (fun y333 s334 => CC m_X10_blur [vR 80, vI (xs (x3 + 1).toNat), vI (xs (x3 + 2).toNat), vI (xs (x3 + 3).toNat), vI (xs (x3 + 4).toNat), vI (if (xs (x3 + 5).toNat) = 0 then 0 else 1 : Int)] s334 (PI (fun y337 s338 => R32 y333 ∧ R32 y337 ∧ ((y333 = y337 → TT (mLaw L xs) 18 [vS, vR 0, vR 80, vI (x3 + 8)] [] s338 (PI K)) ∧ (¬ y333 = y337 → K 0 s338))))))) ∧ (((xs (x3).toNat) % 32) = 30 → (0 ≤ (x3 + 1) ∧ (x3 + 1) < (L : Int)) ∧ (0 ≤ (x3 + 2) ∧ (x3 + 2) < (L : Int)) ∧ (0 ≤ (x3 + 3) ∧ (x3 + 3) < (L : Int)) ∧ (0 ≤ (x3 + 4) ∧ (x3 + 4) < (L : Int)) ∧ (0 ≤ (x3 + 5) ∧ (x3 + 5) < (L : Int)) ∧ (0 ≤ (x3 + 6) ∧ (x3 + 6) < (L : Int)) ∧ CC m_X9_together [vR 0, vI (xs (x3 + 1).toNat), vI (xs (x3 + 2).toNat), vI (xs (x3 + 3).toNat), vI (xs (x3 + 4).toNat), vI (xs (x3 + 5).toNat), vI (xs (x3 + 6).toNat)] σ (PI (fun y348 s349 => CC m_X10_together [vR 80, vI (xs (x3 + 1).toNat), vI (xs (x3 + 2).toNat), vI (xs (x3 + 3).toNat), vI (xs (x3 + 4).toNat), vI (xs (x3 + 5).toNat), vI (xs (x3 + 6).toNat)] s349 (PI (fun y350 s351 => R32 y348 ∧ R32 y350 ∧ ((y348 = y350 → TT (mLaw L xs) 18 [vS, vR 0, vR 80, vI (x3 + 8)] [] s351 (PI K)) ∧ (¬ y348 = y350 → K 0 s351))))))) ∧ (((xs (x3).toNat) % 32) = 31 → (0 ≤ (x3 + 1) ∧ (x3 + 1) < (L : Int)) ∧ CC m_X9_count [vR 0, vI (xs (x3 + 1).toNat)] σ (PI (fun y356 s357 => CC m_X10_count [vR 80, vI (xs (x3 + 1).toNat)] s357 (PI (fun y358 s359 => R32 y356 ∧ R32 y358 ∧ ((y356 = y358 → TT (mLaw L xs) 18 [vS, vR 0, vR 80, vI (x3 + 8)] [] s359 (PI K)) ∧ (¬ y356 = y358 → K 0 s359))))))) ∧ (((xs (x3).toNat) % 32) < 0 ∨ 31 < ((xs (x3).toNat) % 32) → TT (mLaw L xs) 18 [vS, vR 0, vR 80, vI (x3 + 8)] [] σ (PI K))))) : TT (mLaw L xs) 18 [vS, vR 0, vR 80, vI x3] [] σ (PI K) := by
  refine TT_iload_n dL_law_18 rfl ?_
  refine TT_sload_n dL_law_19 rfl ?_
  refine TT_slen dL_law_20 rfl ?_
  refine TT_bipush dL_law_21 (by decide) ?_
  refine TT_isub dL_law_23 ?_
  obtain ⟨o1, h⟩ := h
  obtain ⟨o2, h⟩ := h
  refine TT_icmp_gt (tgt := 1694) dL_law_24 rfl o1 o2 (fun c3 => ?_) (fun c3 => ?_)
  · replace h := h.1 c3
    refine TT_iconst dL_law_1694 ?_
    exact TT_zret dL_law_1695 rfl rfl (Or.inr rfl) h
  · replace h := h.2 c3
    refine TT_sload_n dL_law_27 rfl ?_
    refine TT_iload_n dL_law_28 rfl ?_
    obtain ⟨o4, h⟩ := h
    refine TT_saldv (v := (xs (x3).toNat)) dL_law_29 rfl hL9 o4 rfl ?_
    refine TT_bipush dL_law_30 (by decide) ?_
    obtain ⟨o5, h⟩ := h
    refine TT_iand31 dL_law_32 o5 ?_
    obtain ⟨o6, h⟩ := h
    by_cases c363 : ((xs (x3).toNat) % 32) = 0
    · replace h := h.1 c363
      refine TT_tableIn (x := ((xs (x3).toNat) % 32)) (tgt := 176) (off := 143) dL_law_33 o6 (by rw [c363]; decide) (by rw [c363]; decide) (by rw [c363]; rfl) rfl ?_
      refine TT_aload_n dL_law_176 rfl ?_
      refine TT_sload_n dL_law_177 rfl ?_
      refine TT_iload_n dL_law_178 rfl ?_
      refine TT_iconst dL_law_179 ?_
      refine TT_iadd dL_law_180 ?_
      obtain ⟨o7, h⟩ := h
      refine TT_saldv (v := (xs (x3 + 1).toNat)) dL_law_181 rfl hL9 o7 rfl ?_
      refine TT_sload_n dL_law_182 rfl ?_
      refine TT_iload_n dL_law_183 rfl ?_
      refine TT_iconst dL_law_184 ?_
      refine TT_iadd dL_law_185 ?_
      obtain ⟨o8, h⟩ := h
      refine TT_saldv (v := (xs (x3 + 2).toNat)) dL_law_186 rfl hL9 o8 rfl ?_
      refine TT_sload_n dL_law_187 rfl ?_
      refine TT_iload_n dL_law_188 rfl ?_
      refine TT_iconst dL_law_189 ?_
      refine TT_iadd dL_law_190 ?_
      obtain ⟨o9, h⟩ := h
      refine TT_saldv (v := (xs (x3 + 3).toNat)) dL_law_191 rfl hL9 o9 rfl ?_
      refine TT_sload_n dL_law_192 rfl ?_
      refine TT_iload_n dL_law_193 rfl ?_
      refine TT_iconst dL_law_194 ?_
      refine TT_iadd dL_law_195 ?_
      obtain ⟨o10, h⟩ := h
      refine TT_saldv (v := (xs (x3 + 4).toNat)) dL_law_196 rfl hL9 o10 rfl ?_
      refine TT_callVI (M' := m_X9_say) (as := [vI (xs (x3 + 1).toNat), vI (xs (x3 + 2).toNat), vI (xs (x3 + 3).toNat), vI (xs (x3 + 4).toNat)]) (rest := []) dL_law_197 mo_X9_say ml_L_13 im_X9_say se_X9_say (Nat.le_of_ble_eq_true rfl) (Nat.le_of_ble_eq_true rfl) ⟨rfl, rfl, rfl⟩ rfl rfl (Nat.le_of_ble_eq_true rfl) (by decide) rfl rfl (by decide) h (fun y11 s12 h => ?_)
      refine TT_aload_n dL_law_200 rfl ?_
      refine TT_sload_n dL_law_201 rfl ?_
      refine TT_iload_n dL_law_202 rfl ?_
      refine TT_iconst dL_law_203 ?_
      refine TT_iadd dL_law_204 ?_
      refine TT_saldv (v := (xs (x3 + 1).toNat)) dL_law_205 rfl hL9 o7 rfl ?_
      refine TT_sload_n dL_law_206 rfl ?_
      refine TT_iload_n dL_law_207 rfl ?_
      refine TT_iconst dL_law_208 ?_
      refine TT_iadd dL_law_209 ?_
      refine TT_saldv (v := (xs (x3 + 2).toNat)) dL_law_210 rfl hL9 o8 rfl ?_
      refine TT_sload_n dL_law_211 rfl ?_
      refine TT_iload_n dL_law_212 rfl ?_
      refine TT_iconst dL_law_213 ?_
      refine TT_iadd dL_law_214 ?_
      refine TT_saldv (v := (xs (x3 + 3).toNat)) dL_law_215 rfl hL9 o9 rfl ?_
      refine TT_sload_n dL_law_216 rfl ?_
      refine TT_iload_n dL_law_217 rfl ?_
      refine TT_iconst dL_law_218 ?_
      refine TT_iadd dL_law_219 ?_
      refine TT_saldv (v := (xs (x3 + 4).toNat)) dL_law_220 rfl hL9 o10 rfl ?_
      refine TT_callVI (M' := m_X10_say) (as := [vI (xs (x3 + 1).toNat), vI (xs (x3 + 2).toNat), vI (xs (x3 + 3).toNat), vI (xs (x3 + 4).toNat)]) (rest := [vI y11]) dL_law_221 mo_X10_say ml_L_17 im_X10_say se_X10_say (Nat.le_of_ble_eq_true rfl) (Nat.le_of_ble_eq_true rfl) ⟨rfl, rfl, rfl⟩ rfl rfl (Nat.le_of_ble_eq_true rfl) (by decide) rfl rfl (by decide) h (fun y13 s14 h => ?_)
      obtain ⟨o15, h⟩ := h
      obtain ⟨o16, h⟩ := h
      refine TT_icmp_eq (tgt := 1688) dL_law_224 rfl o15 o16 (fun c17 => ?_) (fun c17 => ?_)
      · replace h := h.1 c17
        refine TT_iinc dL_law_1688 (Nat.le_of_ble_eq_true rfl) rfl rfl rfl ?_
        refine TT_goto (tgt := 18) dL_law_1691 rfl ?_
        exact h
      · replace h := h.2 c17
        refine TT_iconst dL_law_227 ?_
        exact TT_zret dL_law_228 rfl rfl (Or.inl rfl) h
    by_cases c364 : ((xs (x3).toNat) % 32) = 1
    · replace h := h.2.1 c364
      refine TT_tableIn (x := ((xs (x3).toNat) % 32)) (tgt := 229) (off := 196) dL_law_33 o6 (by rw [c364]; decide) (by rw [c364]; decide) (by rw [c364]; rfl) rfl ?_
      refine TT_aload_n dL_law_229 rfl ?_
      refine TT_sload_n dL_law_230 rfl ?_
      refine TT_iload_n dL_law_231 rfl ?_
      refine TT_iconst dL_law_232 ?_
      refine TT_iadd dL_law_233 ?_
      obtain ⟨o18, h⟩ := h
      refine TT_saldv (v := (xs (x3 + 1).toNat)) dL_law_234 rfl hL9 o18 rfl ?_
      refine TT_sload_n dL_law_235 rfl ?_
      refine TT_iload_n dL_law_236 rfl ?_
      refine TT_iconst dL_law_237 ?_
      refine TT_iadd dL_law_238 ?_
      obtain ⟨o19, h⟩ := h
      refine TT_saldv (v := (xs (x3 + 2).toNat)) dL_law_239 rfl hL9 o19 rfl ?_
      refine TT_callVI (M' := m_X9_forget) (as := [vI (xs (x3 + 1).toNat), vI (xs (x3 + 2).toNat)]) (rest := []) dL_law_240 mo_X9_forget ml_L_18 im_X9_forget se_X9_forget (Nat.le_of_ble_eq_true rfl) (Nat.le_of_ble_eq_true rfl) ⟨rfl, rfl, rfl⟩ rfl rfl (Nat.le_of_ble_eq_true rfl) (by decide) rfl rfl (by decide) h (fun y20 s21 h => ?_)
      refine TT_aload_n dL_law_243 rfl ?_
      refine TT_sload_n dL_law_244 rfl ?_
      refine TT_iload_n dL_law_245 rfl ?_
      refine TT_iconst dL_law_246 ?_
      refine TT_iadd dL_law_247 ?_
      refine TT_saldv (v := (xs (x3 + 1).toNat)) dL_law_248 rfl hL9 o18 rfl ?_
      refine TT_sload_n dL_law_249 rfl ?_
      refine TT_iload_n dL_law_250 rfl ?_
      refine TT_iconst dL_law_251 ?_
      refine TT_iadd dL_law_252 ?_
      refine TT_saldv (v := (xs (x3 + 2).toNat)) dL_law_253 rfl hL9 o19 rfl ?_
      refine TT_callVI (M' := m_X10_forget) (as := [vI (xs (x3 + 1).toNat), vI (xs (x3 + 2).toNat)]) (rest := [vI y20]) dL_law_254 mo_X10_forget ml_L_22 im_X10_forget se_X10_forget (Nat.le_of_ble_eq_true rfl) (Nat.le_of_ble_eq_true rfl) ⟨rfl, rfl, rfl⟩ rfl rfl (Nat.le_of_ble_eq_true rfl) (by decide) rfl rfl (by decide) h (fun y22 s23 h => ?_)
      obtain ⟨o24, h⟩ := h
      obtain ⟨o25, h⟩ := h
      refine TT_icmp_eq (tgt := 1688) dL_law_257 rfl o24 o25 (fun c26 => ?_) (fun c26 => ?_)
      · replace h := h.1 c26
        refine TT_iinc dL_law_1688 (Nat.le_of_ble_eq_true rfl) rfl rfl rfl ?_
        refine TT_goto (tgt := 18) dL_law_1691 rfl ?_
        exact h
      · replace h := h.2 c26
        refine TT_iconst dL_law_260 ?_
        exact TT_zret dL_law_261 rfl rfl (Or.inl rfl) h
    by_cases c365 : ((xs (x3).toNat) % 32) = 2
    · replace h := h.2.2.1 c365
      refine TT_tableIn (x := ((xs (x3).toNat) % 32)) (tgt := 262) (off := 229) dL_law_33 o6 (by rw [c365]; decide) (by rw [c365]; decide) (by rw [c365]; rfl) rfl ?_
      refine TT_aload_n dL_law_262 rfl ?_
      refine TT_sload_n dL_law_263 rfl ?_
      refine TT_iload_n dL_law_264 rfl ?_
      refine TT_iconst dL_law_265 ?_
      refine TT_iadd dL_law_266 ?_
      obtain ⟨o27, h⟩ := h
      refine TT_saldv (v := (xs (x3 + 1).toNat)) dL_law_267 rfl hL9 o27 rfl ?_
      refine TT_sload_n dL_law_268 rfl ?_
      refine TT_iload_n dL_law_269 rfl ?_
      refine TT_iconst dL_law_270 ?_
      refine TT_iadd dL_law_271 ?_
      obtain ⟨o28, h⟩ := h
      refine TT_saldv (v := (xs (x3 + 2).toNat)) dL_law_272 rfl hL9 o28 rfl ?_
      refine TT_callVI (M' := m_X9_kind) (as := [vI (xs (x3 + 1).toNat), vI (xs (x3 + 2).toNat)]) (rest := []) dL_law_273 mo_X9_kind ml_L_23 im_X9_kind se_X9_kind (Nat.le_of_ble_eq_true rfl) (Nat.le_of_ble_eq_true rfl) ⟨rfl, rfl, rfl⟩ rfl rfl (Nat.le_of_ble_eq_true rfl) (by decide) rfl rfl (by decide) h (fun y29 s30 h => ?_)
      refine TT_aload_n dL_law_276 rfl ?_
      refine TT_sload_n dL_law_277 rfl ?_
      refine TT_iload_n dL_law_278 rfl ?_
      refine TT_iconst dL_law_279 ?_
      refine TT_iadd dL_law_280 ?_
      refine TT_saldv (v := (xs (x3 + 1).toNat)) dL_law_281 rfl hL9 o27 rfl ?_
      refine TT_sload_n dL_law_282 rfl ?_
      refine TT_iload_n dL_law_283 rfl ?_
      refine TT_iconst dL_law_284 ?_
      refine TT_iadd dL_law_285 ?_
      refine TT_saldv (v := (xs (x3 + 2).toNat)) dL_law_286 rfl hL9 o28 rfl ?_
      refine TT_callVI (M' := m_X10_kind) (as := [vI (xs (x3 + 1).toNat), vI (xs (x3 + 2).toNat)]) (rest := [vI y29]) dL_law_287 mo_X10_kind ml_L_26 im_X10_kind se_X10_kind (Nat.le_of_ble_eq_true rfl) (Nat.le_of_ble_eq_true rfl) ⟨rfl, rfl, rfl⟩ rfl rfl (Nat.le_of_ble_eq_true rfl) (by decide) rfl rfl (by decide) h (fun y31 s32 h => ?_)
      obtain ⟨o33, h⟩ := h
      obtain ⟨o34, h⟩ := h
      refine TT_icmp_eq (tgt := 1688) dL_law_290 rfl o33 o34 (fun c35 => ?_) (fun c35 => ?_)
      · replace h := h.1 c35
        refine TT_iinc dL_law_1688 (Nat.le_of_ble_eq_true rfl) rfl rfl rfl ?_
        refine TT_goto (tgt := 18) dL_law_1691 rfl ?_
        exact h
      · replace h := h.2 c35
        refine TT_iconst dL_law_293 ?_
        exact TT_zret dL_law_294 rfl rfl (Or.inl rfl) h
    by_cases c366 : ((xs (x3).toNat) % 32) = 3
    · replace h := h.2.2.2.1 c366
      refine TT_tableIn (x := ((xs (x3).toNat) % 32)) (tgt := 295) (off := 262) dL_law_33 o6 (by rw [c366]; decide) (by rw [c366]; decide) (by rw [c366]; rfl) rfl ?_
      refine TT_aload_n dL_law_295 rfl ?_
      refine TT_sload_n dL_law_296 rfl ?_
      refine TT_iload_n dL_law_297 rfl ?_
      refine TT_iconst dL_law_298 ?_
      refine TT_iadd dL_law_299 ?_
      obtain ⟨o36, h⟩ := h
      refine TT_saldv (v := (xs (x3 + 1).toNat)) dL_law_300 rfl hL9 o36 rfl ?_
      refine TT_sload_n dL_law_301 rfl ?_
      refine TT_iload_n dL_law_302 rfl ?_
      refine TT_iconst dL_law_303 ?_
      refine TT_iadd dL_law_304 ?_
      obtain ⟨o37, h⟩ := h
      refine TT_saldv (v := (xs (x3 + 2).toNat)) dL_law_305 rfl hL9 o37 rfl ?_
      refine TT_sload_n dL_law_306 rfl ?_
      refine TT_iload_n dL_law_307 rfl ?_
      refine TT_iconst dL_law_308 ?_
      refine TT_iadd dL_law_309 ?_
      obtain ⟨o38, h⟩ := h
      refine TT_saldv (v := (xs (x3 + 3).toNat)) dL_law_310 rfl hL9 o38 rfl ?_
      refine TT_callVI (M' := m_X9_row) (as := [vI (xs (x3 + 1).toNat), vI (xs (x3 + 2).toNat), vI (xs (x3 + 3).toNat)]) (rest := []) dL_law_311 mo_X9_row ml_L_27 im_X9_row se_X9_row (Nat.le_of_ble_eq_true rfl) (Nat.le_of_ble_eq_true rfl) ⟨rfl, rfl, rfl⟩ rfl rfl (Nat.le_of_ble_eq_true rfl) (by decide) rfl rfl (by decide) h (fun y39 s40 h => ?_)
      refine TT_aload_n dL_law_314 rfl ?_
      refine TT_sload_n dL_law_315 rfl ?_
      refine TT_iload_n dL_law_316 rfl ?_
      refine TT_iconst dL_law_317 ?_
      refine TT_iadd dL_law_318 ?_
      refine TT_saldv (v := (xs (x3 + 1).toNat)) dL_law_319 rfl hL9 o36 rfl ?_
      refine TT_sload_n dL_law_320 rfl ?_
      refine TT_iload_n dL_law_321 rfl ?_
      refine TT_iconst dL_law_322 ?_
      refine TT_iadd dL_law_323 ?_
      refine TT_saldv (v := (xs (x3 + 2).toNat)) dL_law_324 rfl hL9 o37 rfl ?_
      refine TT_sload_n dL_law_325 rfl ?_
      refine TT_iload_n dL_law_326 rfl ?_
      refine TT_iconst dL_law_327 ?_
      refine TT_iadd dL_law_328 ?_
      refine TT_saldv (v := (xs (x3 + 3).toNat)) dL_law_329 rfl hL9 o38 rfl ?_
      refine TT_callVI (M' := m_X10_row) (as := [vI (xs (x3 + 1).toNat), vI (xs (x3 + 2).toNat), vI (xs (x3 + 3).toNat)]) (rest := [vI y39]) dL_law_330 mo_X10_row ml_L_31 im_X10_row se_X10_row (Nat.le_of_ble_eq_true rfl) (Nat.le_of_ble_eq_true rfl) ⟨rfl, rfl, rfl⟩ rfl rfl (Nat.le_of_ble_eq_true rfl) (by decide) rfl rfl (by decide) h (fun y41 s42 h => ?_)
      obtain ⟨o43, h⟩ := h
      obtain ⟨o44, h⟩ := h
      refine TT_icmp_eq (tgt := 1688) dL_law_333 rfl o43 o44 (fun c45 => ?_) (fun c45 => ?_)
      · replace h := h.1 c45
        refine TT_iinc dL_law_1688 (Nat.le_of_ble_eq_true rfl) rfl rfl rfl ?_
        refine TT_goto (tgt := 18) dL_law_1691 rfl ?_
        exact h
      · replace h := h.2 c45
        refine TT_iconst dL_law_336 ?_
        exact TT_zret dL_law_337 rfl rfl (Or.inl rfl) h
    by_cases c367 : ((xs (x3).toNat) % 32) = 4
    · replace h := h.2.2.2.2.1 c367
      refine TT_tableIn (x := ((xs (x3).toNat) % 32)) (tgt := 338) (off := 305) dL_law_33 o6 (by rw [c367]; decide) (by rw [c367]; decide) (by rw [c367]; rfl) rfl ?_
      refine TT_aload_n dL_law_338 rfl ?_
      refine TT_sload_n dL_law_339 rfl ?_
      refine TT_iload_n dL_law_340 rfl ?_
      refine TT_iconst dL_law_341 ?_
      refine TT_iadd dL_law_342 ?_
      obtain ⟨o46, h⟩ := h
      refine TT_saldv (v := (xs (x3 + 1).toNat)) dL_law_343 rfl hL9 o46 rfl ?_
      refine TT_sload_n dL_law_344 rfl ?_
      refine TT_iload_n dL_law_345 rfl ?_
      refine TT_iconst dL_law_346 ?_
      refine TT_iadd dL_law_347 ?_
      obtain ⟨o47, h⟩ := h
      refine TT_saldv (v := (xs (x3 + 2).toNat)) dL_law_348 rfl hL9 o47 rfl ?_
      refine TT_sload_n dL_law_349 rfl ?_
      refine TT_iload_n dL_law_350 rfl ?_
      refine TT_iconst dL_law_351 ?_
      refine TT_iadd dL_law_352 ?_
      obtain ⟨o48, h⟩ := h
      refine TT_saldv (v := (xs (x3 + 3).toNat)) dL_law_353 rfl hL9 o48 rfl ?_
      obtain ⟨o49, h⟩ := h
      have j51 : TT (mLaw L xs) 362 [vS, vR 0, vR 80, vI x3] [vI (if (xs (x3 + 3).toNat) = 0 then 0 else 1 : Int), vI (xs (x3 + 2).toNat), vI (xs (x3 + 1).toNat), vR 0] σ (PI K) := by
        refine TT_sload_n dL_law_362 rfl ?_
        refine TT_iload_n dL_law_363 rfl ?_
        refine TT_iconst dL_law_364 ?_
        refine TT_iadd dL_law_365 ?_
        obtain ⟨o52, h⟩ := h
        refine TT_saldv (v := (xs (x3 + 4).toNat)) dL_law_366 rfl hL9 o52 rfl ?_
        obtain ⟨o53, h⟩ := h
        have j55 : TT (mLaw L xs) 375 [vS, vR 0, vR 80, vI x3] [vI (if (xs (x3 + 4).toNat) = 0 then 0 else 1 : Int), vI (if (xs (x3 + 3).toNat) = 0 then 0 else 1 : Int), vI (xs (x3 + 2).toNat), vI (xs (x3 + 1).toNat), vR 0] σ (PI K) := by
          refine TT_callVI (M' := m_X9_at) (as := [vI (xs (x3 + 1).toNat), vI (xs (x3 + 2).toNat), vI (if (xs (x3 + 3).toNat) = 0 then 0 else 1 : Int), vI (if (xs (x3 + 4).toNat) = 0 then 0 else 1 : Int)]) (rest := []) dL_law_375 mo_X9_at ml_L_32 im_X9_at se_X9_at (Nat.le_of_ble_eq_true rfl) (Nat.le_of_ble_eq_true rfl) ⟨rfl, rfl, rfl⟩ rfl rfl (Nat.le_of_ble_eq_true rfl) (by decide) rfl rfl (by decide) h (fun y56 s57 h => ?_)
          refine TT_aload_n dL_law_378 rfl ?_
          refine TT_sload_n dL_law_379 rfl ?_
          refine TT_iload_n dL_law_380 rfl ?_
          refine TT_iconst dL_law_381 ?_
          refine TT_iadd dL_law_382 ?_
          refine TT_saldv (v := (xs (x3 + 1).toNat)) dL_law_383 rfl hL9 o46 rfl ?_
          refine TT_sload_n dL_law_384 rfl ?_
          refine TT_iload_n dL_law_385 rfl ?_
          refine TT_iconst dL_law_386 ?_
          refine TT_iadd dL_law_387 ?_
          refine TT_saldv (v := (xs (x3 + 2).toNat)) dL_law_388 rfl hL9 o47 rfl ?_
          refine TT_sload_n dL_law_389 rfl ?_
          refine TT_iload_n dL_law_390 rfl ?_
          refine TT_iconst dL_law_391 ?_
          refine TT_iadd dL_law_392 ?_
          refine TT_saldv (v := (xs (x3 + 3).toNat)) dL_law_393 rfl hL9 o48 rfl ?_
          have j59 : TT (mLaw L xs) 402 [vS, vR 0, vR 80, vI x3] [vI (if (xs (x3 + 3).toNat) = 0 then 0 else 1 : Int), vI (xs (x3 + 2).toNat), vI (xs (x3 + 1).toNat), vR 80, vI y56] s57 (PI K) := by
            refine TT_sload_n dL_law_402 rfl ?_
            refine TT_iload_n dL_law_403 rfl ?_
            refine TT_iconst dL_law_404 ?_
            refine TT_iadd dL_law_405 ?_
            refine TT_saldv (v := (xs (x3 + 4).toNat)) dL_law_406 rfl hL9 o52 rfl ?_
            have j61 : TT (mLaw L xs) 415 [vS, vR 0, vR 80, vI x3] [vI (if (xs (x3 + 4).toNat) = 0 then 0 else 1 : Int), vI (if (xs (x3 + 3).toNat) = 0 then 0 else 1 : Int), vI (xs (x3 + 2).toNat), vI (xs (x3 + 1).toNat), vR 80, vI y56] s57 (PI K) := by
              refine TT_callVI (M' := m_X10_at) (as := [vI (xs (x3 + 1).toNat), vI (xs (x3 + 2).toNat), vI (if (xs (x3 + 3).toNat) = 0 then 0 else 1 : Int), vI (if (xs (x3 + 4).toNat) = 0 then 0 else 1 : Int)]) (rest := [vI y56]) dL_law_415 mo_X10_at ml_L_36 im_X10_at se_X10_at (Nat.le_of_ble_eq_true rfl) (Nat.le_of_ble_eq_true rfl) ⟨rfl, rfl, rfl⟩ rfl rfl (Nat.le_of_ble_eq_true rfl) (by decide) rfl rfl (by decide) h (fun y62 s63 h => ?_)
              obtain ⟨o64, h⟩ := h
              obtain ⟨o65, h⟩ := h
              refine TT_icmp_eq (tgt := 1688) dL_law_418 rfl o64 o65 (fun c66 => ?_) (fun c66 => ?_)
              · replace h := h.1 c66
                refine TT_iinc dL_law_1688 (Nat.le_of_ble_eq_true rfl) rfl rfl rfl ?_
                refine TT_goto (tgt := 18) dL_law_1691 rfl ?_
                exact h
              · replace h := h.2 c66
                refine TT_iconst dL_law_421 ?_
                exact TT_zret dL_law_422 rfl rfl (Or.inl rfl) h
            refine TT_if_eq (tgt := 414) dL_law_407 rfl o53 (fun c60 => ?_) (fun c60 => ?_)
            · refine TT_iconst dL_law_414 ?_
              exact TT.cast j61 (by first | rfl | (simp only [if_pos c60] <;> rfl)) (by first | rfl | (simp only [if_pos c60] <;> rfl))
            · refine TT_iconst dL_law_410 ?_
              refine TT_goto (tgt := 415) dL_law_411 rfl ?_
              exact TT.cast j61 (by first | rfl | (simp only [if_neg c60] <;> rfl)) (by first | rfl | (simp only [if_neg c60] <;> rfl))
          refine TT_if_eq (tgt := 401) dL_law_394 rfl o49 (fun c58 => ?_) (fun c58 => ?_)
          · refine TT_iconst dL_law_401 ?_
            exact TT.cast j59 (by first | rfl | (simp only [if_pos c58] <;> rfl)) (by first | rfl | (simp only [if_pos c58] <;> rfl))
          · refine TT_iconst dL_law_397 ?_
            refine TT_goto (tgt := 402) dL_law_398 rfl ?_
            exact TT.cast j59 (by first | rfl | (simp only [if_neg c58] <;> rfl)) (by first | rfl | (simp only [if_neg c58] <;> rfl))
        refine TT_if_eq (tgt := 374) dL_law_367 rfl o53 (fun c54 => ?_) (fun c54 => ?_)
        · refine TT_iconst dL_law_374 ?_
          exact TT.cast j55 (by first | rfl | (simp only [if_pos c54] <;> rfl)) (by first | rfl | (simp only [if_pos c54] <;> rfl))
        · refine TT_iconst dL_law_370 ?_
          refine TT_goto (tgt := 375) dL_law_371 rfl ?_
          exact TT.cast j55 (by first | rfl | (simp only [if_neg c54] <;> rfl)) (by first | rfl | (simp only [if_neg c54] <;> rfl))
      refine TT_if_eq (tgt := 361) dL_law_354 rfl o49 (fun c50 => ?_) (fun c50 => ?_)
      · refine TT_iconst dL_law_361 ?_
        exact TT.cast j51 (by first | rfl | (simp only [if_pos c50] <;> rfl)) (by first | rfl | (simp only [if_pos c50] <;> rfl))
      · refine TT_iconst dL_law_357 ?_
        refine TT_goto (tgt := 362) dL_law_358 rfl ?_
        exact TT.cast j51 (by first | rfl | (simp only [if_neg c50] <;> rfl)) (by first | rfl | (simp only [if_neg c50] <;> rfl))
    by_cases c368 : ((xs (x3).toNat) % 32) = 5
    · replace h := h.2.2.2.2.2.1 c368
      refine TT_tableIn (x := ((xs (x3).toNat) % 32)) (tgt := 423) (off := 390) dL_law_33 o6 (by rw [c368]; decide) (by rw [c368]; decide) (by rw [c368]; rfl) rfl ?_
      refine TT_aload_n dL_law_423 rfl ?_
      refine TT_sload_n dL_law_424 rfl ?_
      refine TT_iload_n dL_law_425 rfl ?_
      refine TT_iconst dL_law_426 ?_
      refine TT_iadd dL_law_427 ?_
      obtain ⟨o67, h⟩ := h
      refine TT_saldv (v := (xs (x3 + 1).toNat)) dL_law_428 rfl hL9 o67 rfl ?_
      refine TT_sload_n dL_law_429 rfl ?_
      refine TT_iload_n dL_law_430 rfl ?_
      refine TT_iconst dL_law_431 ?_
      refine TT_iadd dL_law_432 ?_
      obtain ⟨o68, h⟩ := h
      refine TT_saldv (v := (xs (x3 + 2).toNat)) dL_law_433 rfl hL9 o68 rfl ?_
      refine TT_callVI (M' := m_X9_there) (as := [vI (xs (x3 + 1).toNat), vI (xs (x3 + 2).toNat)]) (rest := []) dL_law_434 mo_X9_there ml_L_37 im_X9_there se_X9_there (Nat.le_of_ble_eq_true rfl) (Nat.le_of_ble_eq_true rfl) ⟨rfl, rfl, rfl⟩ rfl rfl (Nat.le_of_ble_eq_true rfl) (by decide) rfl rfl (by decide) h (fun y69 s70 h => ?_)
      refine TT_aload_n dL_law_437 rfl ?_
      refine TT_sload_n dL_law_438 rfl ?_
      refine TT_iload_n dL_law_439 rfl ?_
      refine TT_iconst dL_law_440 ?_
      refine TT_iadd dL_law_441 ?_
      refine TT_saldv (v := (xs (x3 + 1).toNat)) dL_law_442 rfl hL9 o67 rfl ?_
      refine TT_sload_n dL_law_443 rfl ?_
      refine TT_iload_n dL_law_444 rfl ?_
      refine TT_iconst dL_law_445 ?_
      refine TT_iadd dL_law_446 ?_
      refine TT_saldv (v := (xs (x3 + 2).toNat)) dL_law_447 rfl hL9 o68 rfl ?_
      refine TT_callVI (M' := m_X10_there) (as := [vI (xs (x3 + 1).toNat), vI (xs (x3 + 2).toNat)]) (rest := [vI y69]) dL_law_448 mo_X10_there ml_L_40 im_X10_there se_X10_there (Nat.le_of_ble_eq_true rfl) (Nat.le_of_ble_eq_true rfl) ⟨rfl, rfl, rfl⟩ rfl rfl (Nat.le_of_ble_eq_true rfl) (by decide) rfl rfl (by decide) h (fun y71 s72 h => ?_)
      obtain ⟨o73, h⟩ := h
      obtain ⟨o74, h⟩ := h
      refine TT_icmp_eq (tgt := 1688) dL_law_451 rfl o73 o74 (fun c75 => ?_) (fun c75 => ?_)
      · replace h := h.1 c75
        refine TT_iinc dL_law_1688 (Nat.le_of_ble_eq_true rfl) rfl rfl rfl ?_
        refine TT_goto (tgt := 18) dL_law_1691 rfl ?_
        exact h
      · replace h := h.2 c75
        refine TT_iconst dL_law_454 ?_
        exact TT_zret dL_law_455 rfl rfl (Or.inl rfl) h
    by_cases c369 : ((xs (x3).toNat) % 32) = 6
    · replace h := h.2.2.2.2.2.2.1 c369
      refine TT_tableIn (x := ((xs (x3).toNat) % 32)) (tgt := 456) (off := 423) dL_law_33 o6 (by rw [c369]; decide) (by rw [c369]; decide) (by rw [c369]; rfl) rfl ?_
      refine TT_aload_n dL_law_456 rfl ?_
      refine TT_callVI (M' := m_X9_mended) (as := []) (rest := []) dL_law_457 mo_X9_mended ml_L_41 im_X9_mended se_X9_mended (Nat.le_of_ble_eq_true rfl) (Nat.le_of_ble_eq_true rfl) ⟨rfl, rfl, rfl⟩ rfl rfl (Nat.le_of_ble_eq_true rfl) (by decide) rfl rfl (by decide) h (fun y76 s77 h => ?_)
      refine TT_aload_n dL_law_460 rfl ?_
      refine TT_callVI (M' := m_X10_mended) (as := []) (rest := [vI y76]) dL_law_461 mo_X10_mended ml_L_45 im_X10_mended se_X10_mended (Nat.le_of_ble_eq_true rfl) (Nat.le_of_ble_eq_true rfl) ⟨rfl, rfl, rfl⟩ rfl rfl (Nat.le_of_ble_eq_true rfl) (by decide) rfl rfl (by decide) h (fun y78 s79 h => ?_)
      obtain ⟨o80, h⟩ := h
      obtain ⟨o81, h⟩ := h
      refine TT_icmp_eq (tgt := 1688) dL_law_464 rfl o80 o81 (fun c82 => ?_) (fun c82 => ?_)
      · replace h := h.1 c82
        refine TT_iinc dL_law_1688 (Nat.le_of_ble_eq_true rfl) rfl rfl rfl ?_
        refine TT_goto (tgt := 18) dL_law_1691 rfl ?_
        exact h
      · replace h := h.2 c82
        refine TT_iconst dL_law_467 ?_
        exact TT_zret dL_law_468 rfl rfl (Or.inl rfl) h
    by_cases c370 : ((xs (x3).toNat) % 32) = 7
    · replace h := h.2.2.2.2.2.2.2.1 c370
      refine TT_tableIn (x := ((xs (x3).toNat) % 32)) (tgt := 469) (off := 436) dL_law_33 o6 (by rw [c370]; decide) (by rw [c370]; decide) (by rw [c370]; rfl) rfl ?_
      refine TT_aload_n dL_law_469 rfl ?_
      refine TT_sload_n dL_law_470 rfl ?_
      refine TT_iload_n dL_law_471 rfl ?_
      refine TT_iconst dL_law_472 ?_
      refine TT_iadd dL_law_473 ?_
      obtain ⟨o83, h⟩ := h
      refine TT_saldv (v := (xs (x3 + 1).toNat)) dL_law_474 rfl hL9 o83 rfl ?_
      refine TT_sload_n dL_law_475 rfl ?_
      refine TT_iload_n dL_law_476 rfl ?_
      refine TT_iconst dL_law_477 ?_
      refine TT_iadd dL_law_478 ?_
      obtain ⟨o84, h⟩ := h
      refine TT_saldv (v := (xs (x3 + 2).toNat)) dL_law_479 rfl hL9 o84 rfl ?_
      refine TT_sload_n dL_law_480 rfl ?_
      refine TT_iload_n dL_law_481 rfl ?_
      refine TT_iconst dL_law_482 ?_
      refine TT_iadd dL_law_483 ?_
      obtain ⟨o85, h⟩ := h
      refine TT_saldv (v := (xs (x3 + 3).toNat)) dL_law_484 rfl hL9 o85 rfl ?_
      refine TT_sload_n dL_law_485 rfl ?_
      refine TT_iload_n dL_law_486 rfl ?_
      refine TT_iconst dL_law_487 ?_
      refine TT_iadd dL_law_488 ?_
      obtain ⟨o86, h⟩ := h
      refine TT_saldv (v := (xs (x3 + 4).toNat)) dL_law_489 rfl hL9 o86 rfl ?_
      refine TT_sload_n dL_law_490 rfl ?_
      refine TT_iload_n dL_law_491 rfl ?_
      refine TT_iconst dL_law_492 ?_
      refine TT_iadd dL_law_493 ?_
      obtain ⟨o87, h⟩ := h
      refine TT_saldv (v := (xs (x3 + 5).toNat)) dL_law_494 rfl hL9 o87 rfl ?_
      refine TT_callVI (M' := m_X9_inside) (as := [vI (xs (x3 + 1).toNat), vI (xs (x3 + 2).toNat), vI (xs (x3 + 3).toNat), vI (xs (x3 + 4).toNat), vI (xs (x3 + 5).toNat)]) (rest := []) dL_law_495 mo_X9_inside ml_L_46 im_X9_inside se_X9_inside (Nat.le_of_ble_eq_true rfl) (Nat.le_of_ble_eq_true rfl) ⟨rfl, rfl, rfl⟩ rfl rfl (Nat.le_of_ble_eq_true rfl) (by decide) rfl rfl (by decide) h (fun y88 s89 h => ?_)
      refine TT_aload_n dL_law_498 rfl ?_
      refine TT_sload_n dL_law_499 rfl ?_
      refine TT_iload_n dL_law_500 rfl ?_
      refine TT_iconst dL_law_501 ?_
      refine TT_iadd dL_law_502 ?_
      refine TT_saldv (v := (xs (x3 + 1).toNat)) dL_law_503 rfl hL9 o83 rfl ?_
      refine TT_sload_n dL_law_504 rfl ?_
      refine TT_iload_n dL_law_505 rfl ?_
      refine TT_iconst dL_law_506 ?_
      refine TT_iadd dL_law_507 ?_
      refine TT_saldv (v := (xs (x3 + 2).toNat)) dL_law_508 rfl hL9 o84 rfl ?_
      refine TT_sload_n dL_law_509 rfl ?_
      refine TT_iload_n dL_law_510 rfl ?_
      refine TT_iconst dL_law_511 ?_
      refine TT_iadd dL_law_512 ?_
      refine TT_saldv (v := (xs (x3 + 3).toNat)) dL_law_513 rfl hL9 o85 rfl ?_
      refine TT_sload_n dL_law_514 rfl ?_
      refine TT_iload_n dL_law_515 rfl ?_
      refine TT_iconst dL_law_516 ?_
      refine TT_iadd dL_law_517 ?_
      refine TT_saldv (v := (xs (x3 + 4).toNat)) dL_law_518 rfl hL9 o86 rfl ?_
      refine TT_sload_n dL_law_519 rfl ?_
      refine TT_iload_n dL_law_520 rfl ?_
      refine TT_iconst dL_law_521 ?_
      refine TT_iadd dL_law_522 ?_
      refine TT_saldv (v := (xs (x3 + 5).toNat)) dL_law_523 rfl hL9 o87 rfl ?_
      refine TT_callVI (M' := m_X10_inside) (as := [vI (xs (x3 + 1).toNat), vI (xs (x3 + 2).toNat), vI (xs (x3 + 3).toNat), vI (xs (x3 + 4).toNat), vI (xs (x3 + 5).toNat)]) (rest := [vI y88]) dL_law_524 mo_X10_inside ml_L_50 im_X10_inside se_X10_inside (Nat.le_of_ble_eq_true rfl) (Nat.le_of_ble_eq_true rfl) ⟨rfl, rfl, rfl⟩ rfl rfl (Nat.le_of_ble_eq_true rfl) (by decide) rfl rfl (by decide) h (fun y90 s91 h => ?_)
      obtain ⟨o92, h⟩ := h
      obtain ⟨o93, h⟩ := h
      refine TT_icmp_eq (tgt := 1688) dL_law_527 rfl o92 o93 (fun c94 => ?_) (fun c94 => ?_)
      · replace h := h.1 c94
        refine TT_iinc dL_law_1688 (Nat.le_of_ble_eq_true rfl) rfl rfl rfl ?_
        refine TT_goto (tgt := 18) dL_law_1691 rfl ?_
        exact h
      · replace h := h.2 c94
        refine TT_iconst dL_law_530 ?_
        exact TT_zret dL_law_531 rfl rfl (Or.inl rfl) h
    by_cases c371 : ((xs (x3).toNat) % 32) = 8
    · replace h := h.2.2.2.2.2.2.2.2.1 c371
      refine TT_tableIn (x := ((xs (x3).toNat) % 32)) (tgt := 532) (off := 499) dL_law_33 o6 (by rw [c371]; decide) (by rw [c371]; decide) (by rw [c371]; rfl) rfl ?_
      refine TT_aload_n dL_law_532 rfl ?_
      refine TT_sload_n dL_law_533 rfl ?_
      refine TT_iload_n dL_law_534 rfl ?_
      refine TT_iconst dL_law_535 ?_
      refine TT_iadd dL_law_536 ?_
      obtain ⟨o95, h⟩ := h
      refine TT_saldv (v := (xs (x3 + 1).toNat)) dL_law_537 rfl hL9 o95 rfl ?_
      refine TT_sload_n dL_law_538 rfl ?_
      refine TT_iload_n dL_law_539 rfl ?_
      refine TT_iconst dL_law_540 ?_
      refine TT_iadd dL_law_541 ?_
      obtain ⟨o96, h⟩ := h
      refine TT_saldv (v := (xs (x3 + 2).toNat)) dL_law_542 rfl hL9 o96 rfl ?_
      refine TT_sload_n dL_law_543 rfl ?_
      refine TT_iload_n dL_law_544 rfl ?_
      refine TT_iconst dL_law_545 ?_
      refine TT_iadd dL_law_546 ?_
      obtain ⟨o97, h⟩ := h
      refine TT_saldv (v := (xs (x3 + 3).toNat)) dL_law_547 rfl hL9 o97 rfl ?_
      refine TT_sload_n dL_law_548 rfl ?_
      refine TT_iload_n dL_law_549 rfl ?_
      refine TT_iconst dL_law_550 ?_
      refine TT_iadd dL_law_551 ?_
      obtain ⟨o98, h⟩ := h
      refine TT_saldv (v := (xs (x3 + 4).toNat)) dL_law_552 rfl hL9 o98 rfl ?_
      refine TT_sload_n dL_law_553 rfl ?_
      refine TT_iload_n dL_law_554 rfl ?_
      refine TT_iconst dL_law_555 ?_
      refine TT_iadd dL_law_556 ?_
      obtain ⟨o99, h⟩ := h
      refine TT_saldv (v := (xs (x3 + 5).toNat)) dL_law_557 rfl hL9 o99 rfl ?_
      refine TT_sload_n dL_law_558 rfl ?_
      refine TT_iload_n dL_law_559 rfl ?_
      refine TT_bipush dL_law_560 (by decide) ?_
      refine TT_iadd dL_law_562 ?_
      obtain ⟨o100, h⟩ := h
      refine TT_saldv (v := (xs (x3 + 6).toNat)) dL_law_563 rfl hL9 o100 rfl ?_
      refine TT_callVI (M' := m_X9_who) (as := [vI (xs (x3 + 1).toNat), vI (xs (x3 + 2).toNat), vI (xs (x3 + 3).toNat), vI (xs (x3 + 4).toNat), vI (xs (x3 + 5).toNat), vI (xs (x3 + 6).toNat)]) (rest := []) dL_law_564 mo_X9_who ml_L_51 im_X9_who se_X9_who (Nat.le_of_ble_eq_true rfl) (Nat.le_of_ble_eq_true rfl) ⟨rfl, rfl, rfl⟩ rfl rfl (Nat.le_of_ble_eq_true rfl) (by decide) rfl rfl (by decide) h (fun y101 s102 h => ?_)
      refine TT_aload_n dL_law_567 rfl ?_
      refine TT_sload_n dL_law_568 rfl ?_
      refine TT_iload_n dL_law_569 rfl ?_
      refine TT_iconst dL_law_570 ?_
      refine TT_iadd dL_law_571 ?_
      refine TT_saldv (v := (xs (x3 + 1).toNat)) dL_law_572 rfl hL9 o95 rfl ?_
      refine TT_sload_n dL_law_573 rfl ?_
      refine TT_iload_n dL_law_574 rfl ?_
      refine TT_iconst dL_law_575 ?_
      refine TT_iadd dL_law_576 ?_
      refine TT_saldv (v := (xs (x3 + 2).toNat)) dL_law_577 rfl hL9 o96 rfl ?_
      refine TT_sload_n dL_law_578 rfl ?_
      refine TT_iload_n dL_law_579 rfl ?_
      refine TT_iconst dL_law_580 ?_
      refine TT_iadd dL_law_581 ?_
      refine TT_saldv (v := (xs (x3 + 3).toNat)) dL_law_582 rfl hL9 o97 rfl ?_
      refine TT_sload_n dL_law_583 rfl ?_
      refine TT_iload_n dL_law_584 rfl ?_
      refine TT_iconst dL_law_585 ?_
      refine TT_iadd dL_law_586 ?_
      refine TT_saldv (v := (xs (x3 + 4).toNat)) dL_law_587 rfl hL9 o98 rfl ?_
      refine TT_sload_n dL_law_588 rfl ?_
      refine TT_iload_n dL_law_589 rfl ?_
      refine TT_iconst dL_law_590 ?_
      refine TT_iadd dL_law_591 ?_
      refine TT_saldv (v := (xs (x3 + 5).toNat)) dL_law_592 rfl hL9 o99 rfl ?_
      refine TT_sload_n dL_law_593 rfl ?_
      refine TT_iload_n dL_law_594 rfl ?_
      refine TT_bipush dL_law_595 (by decide) ?_
      refine TT_iadd dL_law_597 ?_
      refine TT_saldv (v := (xs (x3 + 6).toNat)) dL_law_598 rfl hL9 o100 rfl ?_
      refine TT_callVI (M' := m_X10_who) (as := [vI (xs (x3 + 1).toNat), vI (xs (x3 + 2).toNat), vI (xs (x3 + 3).toNat), vI (xs (x3 + 4).toNat), vI (xs (x3 + 5).toNat), vI (xs (x3 + 6).toNat)]) (rest := [vI y101]) dL_law_599 mo_X10_who ml_L_55 im_X10_who se_X10_who (Nat.le_of_ble_eq_true rfl) (Nat.le_of_ble_eq_true rfl) ⟨rfl, rfl, rfl⟩ rfl rfl (Nat.le_of_ble_eq_true rfl) (by decide) rfl rfl (by decide) h (fun y103 s104 h => ?_)
      obtain ⟨o105, h⟩ := h
      obtain ⟨o106, h⟩ := h
      refine TT_icmp_eq (tgt := 1688) dL_law_602 rfl o105 o106 (fun c107 => ?_) (fun c107 => ?_)
      · replace h := h.1 c107
        refine TT_iinc dL_law_1688 (Nat.le_of_ble_eq_true rfl) rfl rfl rfl ?_
        refine TT_goto (tgt := 18) dL_law_1691 rfl ?_
        exact h
      · replace h := h.2 c107
        refine TT_iconst dL_law_605 ?_
        exact TT_zret dL_law_606 rfl rfl (Or.inl rfl) h
    by_cases c372 : ((xs (x3).toNat) % 32) = 9
    · replace h := h.2.2.2.2.2.2.2.2.2.1 c372
      refine TT_tableIn (x := ((xs (x3).toNat) % 32)) (tgt := 607) (off := 574) dL_law_33 o6 (by rw [c372]; decide) (by rw [c372]; decide) (by rw [c372]; rfl) rfl ?_
      refine TT_aload_n dL_law_607 rfl ?_
      refine TT_sload_n dL_law_608 rfl ?_
      refine TT_iload_n dL_law_609 rfl ?_
      refine TT_iconst dL_law_610 ?_
      refine TT_iadd dL_law_611 ?_
      obtain ⟨o108, h⟩ := h
      refine TT_saldv (v := (xs (x3 + 1).toNat)) dL_law_612 rfl hL9 o108 rfl ?_
      refine TT_sload_n dL_law_613 rfl ?_
      refine TT_iload_n dL_law_614 rfl ?_
      refine TT_iconst dL_law_615 ?_
      refine TT_iadd dL_law_616 ?_
      obtain ⟨o109, h⟩ := h
      refine TT_saldv (v := (xs (x3 + 2).toNat)) dL_law_617 rfl hL9 o109 rfl ?_
      refine TT_sload_n dL_law_618 rfl ?_
      refine TT_iload_n dL_law_619 rfl ?_
      refine TT_iconst dL_law_620 ?_
      refine TT_iadd dL_law_621 ?_
      obtain ⟨o110, h⟩ := h
      refine TT_saldv (v := (xs (x3 + 3).toNat)) dL_law_622 rfl hL9 o110 rfl ?_
      refine TT_sload_n dL_law_623 rfl ?_
      refine TT_iload_n dL_law_624 rfl ?_
      refine TT_iconst dL_law_625 ?_
      refine TT_iadd dL_law_626 ?_
      obtain ⟨o111, h⟩ := h
      refine TT_saldv (v := (xs (x3 + 4).toNat)) dL_law_627 rfl hL9 o111 rfl ?_
      refine TT_sload_n dL_law_628 rfl ?_
      refine TT_iload_n dL_law_629 rfl ?_
      refine TT_iconst dL_law_630 ?_
      refine TT_iadd dL_law_631 ?_
      obtain ⟨o112, h⟩ := h
      refine TT_saldv (v := (xs (x3 + 5).toNat)) dL_law_632 rfl hL9 o112 rfl ?_
      refine TT_callVI (M' := m_X9_visits) (as := [vI (xs (x3 + 1).toNat), vI (xs (x3 + 2).toNat), vI (xs (x3 + 3).toNat), vI (xs (x3 + 4).toNat), vI (xs (x3 + 5).toNat)]) (rest := []) dL_law_633 mo_X9_visits ml_L_56 im_X9_visits se_X9_visits (Nat.le_of_ble_eq_true rfl) (Nat.le_of_ble_eq_true rfl) ⟨rfl, rfl, rfl⟩ rfl rfl (Nat.le_of_ble_eq_true rfl) (by decide) rfl rfl (by decide) h (fun y113 s114 h => ?_)
      refine TT_aload_n dL_law_636 rfl ?_
      refine TT_sload_n dL_law_637 rfl ?_
      refine TT_iload_n dL_law_638 rfl ?_
      refine TT_iconst dL_law_639 ?_
      refine TT_iadd dL_law_640 ?_
      refine TT_saldv (v := (xs (x3 + 1).toNat)) dL_law_641 rfl hL9 o108 rfl ?_
      refine TT_sload_n dL_law_642 rfl ?_
      refine TT_iload_n dL_law_643 rfl ?_
      refine TT_iconst dL_law_644 ?_
      refine TT_iadd dL_law_645 ?_
      refine TT_saldv (v := (xs (x3 + 2).toNat)) dL_law_646 rfl hL9 o109 rfl ?_
      refine TT_sload_n dL_law_647 rfl ?_
      refine TT_iload_n dL_law_648 rfl ?_
      refine TT_iconst dL_law_649 ?_
      refine TT_iadd dL_law_650 ?_
      refine TT_saldv (v := (xs (x3 + 3).toNat)) dL_law_651 rfl hL9 o110 rfl ?_
      refine TT_sload_n dL_law_652 rfl ?_
      refine TT_iload_n dL_law_653 rfl ?_
      refine TT_iconst dL_law_654 ?_
      refine TT_iadd dL_law_655 ?_
      refine TT_saldv (v := (xs (x3 + 4).toNat)) dL_law_656 rfl hL9 o111 rfl ?_
      refine TT_sload_n dL_law_657 rfl ?_
      refine TT_iload_n dL_law_658 rfl ?_
      refine TT_iconst dL_law_659 ?_
      refine TT_iadd dL_law_660 ?_
      refine TT_saldv (v := (xs (x3 + 5).toNat)) dL_law_661 rfl hL9 o112 rfl ?_
      refine TT_callVI (M' := m_X10_visits) (as := [vI (xs (x3 + 1).toNat), vI (xs (x3 + 2).toNat), vI (xs (x3 + 3).toNat), vI (xs (x3 + 4).toNat), vI (xs (x3 + 5).toNat)]) (rest := [vI y113]) dL_law_662 mo_X10_visits ml_L_59 im_X10_visits se_X10_visits (Nat.le_of_ble_eq_true rfl) (Nat.le_of_ble_eq_true rfl) ⟨rfl, rfl, rfl⟩ rfl rfl (Nat.le_of_ble_eq_true rfl) (by decide) rfl rfl (by decide) h (fun y115 s116 h => ?_)
      obtain ⟨o117, h⟩ := h
      obtain ⟨o118, h⟩ := h
      refine TT_icmp_eq (tgt := 1688) dL_law_665 rfl o117 o118 (fun c119 => ?_) (fun c119 => ?_)
      · replace h := h.1 c119
        refine TT_iinc dL_law_1688 (Nat.le_of_ble_eq_true rfl) rfl rfl rfl ?_
        refine TT_goto (tgt := 18) dL_law_1691 rfl ?_
        exact h
      · replace h := h.2 c119
        refine TT_iconst dL_law_668 ?_
        exact TT_zret dL_law_669 rfl rfl (Or.inl rfl) h
    by_cases c373 : ((xs (x3).toNat) % 32) = 10
    · replace h := h.2.2.2.2.2.2.2.2.2.2.1 c373
      refine TT_tableIn (x := ((xs (x3).toNat) % 32)) (tgt := 670) (off := 637) dL_law_33 o6 (by rw [c373]; decide) (by rw [c373]; decide) (by rw [c373]; rfl) rfl ?_
      refine TT_aload_n dL_law_670 rfl ?_
      refine TT_sload_n dL_law_671 rfl ?_
      refine TT_iload_n dL_law_672 rfl ?_
      refine TT_iconst dL_law_673 ?_
      refine TT_iadd dL_law_674 ?_
      obtain ⟨o120, h⟩ := h
      refine TT_saldv (v := (xs (x3 + 1).toNat)) dL_law_675 rfl hL9 o120 rfl ?_
      refine TT_sload_n dL_law_676 rfl ?_
      refine TT_iload_n dL_law_677 rfl ?_
      refine TT_iconst dL_law_678 ?_
      refine TT_iadd dL_law_679 ?_
      obtain ⟨o121, h⟩ := h
      refine TT_saldv (v := (xs (x3 + 2).toNat)) dL_law_680 rfl hL9 o121 rfl ?_
      refine TT_sload_n dL_law_681 rfl ?_
      refine TT_iload_n dL_law_682 rfl ?_
      refine TT_iconst dL_law_683 ?_
      refine TT_iadd dL_law_684 ?_
      obtain ⟨o122, h⟩ := h
      refine TT_saldv (v := (xs (x3 + 3).toNat)) dL_law_685 rfl hL9 o122 rfl ?_
      refine TT_sload_n dL_law_686 rfl ?_
      refine TT_iload_n dL_law_687 rfl ?_
      refine TT_iconst dL_law_688 ?_
      refine TT_iadd dL_law_689 ?_
      obtain ⟨o123, h⟩ := h
      refine TT_saldv (v := (xs (x3 + 4).toNat)) dL_law_690 rfl hL9 o123 rfl ?_
      refine TT_sload_n dL_law_691 rfl ?_
      refine TT_iload_n dL_law_692 rfl ?_
      refine TT_iconst dL_law_693 ?_
      refine TT_iadd dL_law_694 ?_
      obtain ⟨o124, h⟩ := h
      refine TT_saldv (v := (xs (x3 + 5).toNat)) dL_law_695 rfl hL9 o124 rfl ?_
      refine TT_sload_n dL_law_696 rfl ?_
      refine TT_iload_n dL_law_697 rfl ?_
      refine TT_bipush dL_law_698 (by decide) ?_
      refine TT_iadd dL_law_700 ?_
      obtain ⟨o125, h⟩ := h
      refine TT_saldv (v := (xs (x3 + 6).toNat)) dL_law_701 rfl hL9 o125 rfl ?_
      refine TT_sload_n dL_law_702 rfl ?_
      refine TT_iload_n dL_law_703 rfl ?_
      refine TT_bipush dL_law_704 (by decide) ?_
      refine TT_iadd dL_law_706 ?_
      obtain ⟨o126, h⟩ := h
      refine TT_saldv (v := (xs (x3 + 7).toNat)) dL_law_707 rfl hL9 o126 rfl ?_
      obtain ⟨o127, h⟩ := h
      have j129 : TT (mLaw L xs) 716 [vS, vR 0, vR 80, vI x3] [vI (if (xs (x3 + 7).toNat) = 0 then 0 else 1 : Int), vI (xs (x3 + 6).toNat), vI (xs (x3 + 5).toNat), vI (xs (x3 + 4).toNat), vI (xs (x3 + 3).toNat), vI (xs (x3 + 2).toNat), vI (xs (x3 + 1).toNat), vR 0] σ (PI K) := by
        refine TT_callVI (M' := m_X9_visit) (as := [vI (xs (x3 + 1).toNat), vI (xs (x3 + 2).toNat), vI (xs (x3 + 3).toNat), vI (xs (x3 + 4).toNat), vI (xs (x3 + 5).toNat), vI (xs (x3 + 6).toNat), vI (if (xs (x3 + 7).toNat) = 0 then 0 else 1 : Int)]) (rest := []) dL_law_716 mo_X9_visit ml_L_60 im_X9_visit se_X9_visit (Nat.le_of_ble_eq_true rfl) (Nat.le_of_ble_eq_true rfl) ⟨rfl, rfl, rfl⟩ rfl rfl (Nat.le_of_ble_eq_true rfl) (by decide) rfl rfl (by decide) h (fun y130 s131 h => ?_)
        refine TT_aload_n dL_law_719 rfl ?_
        refine TT_sload_n dL_law_720 rfl ?_
        refine TT_iload_n dL_law_721 rfl ?_
        refine TT_iconst dL_law_722 ?_
        refine TT_iadd dL_law_723 ?_
        refine TT_saldv (v := (xs (x3 + 1).toNat)) dL_law_724 rfl hL9 o120 rfl ?_
        refine TT_sload_n dL_law_725 rfl ?_
        refine TT_iload_n dL_law_726 rfl ?_
        refine TT_iconst dL_law_727 ?_
        refine TT_iadd dL_law_728 ?_
        refine TT_saldv (v := (xs (x3 + 2).toNat)) dL_law_729 rfl hL9 o121 rfl ?_
        refine TT_sload_n dL_law_730 rfl ?_
        refine TT_iload_n dL_law_731 rfl ?_
        refine TT_iconst dL_law_732 ?_
        refine TT_iadd dL_law_733 ?_
        refine TT_saldv (v := (xs (x3 + 3).toNat)) dL_law_734 rfl hL9 o122 rfl ?_
        refine TT_sload_n dL_law_735 rfl ?_
        refine TT_iload_n dL_law_736 rfl ?_
        refine TT_iconst dL_law_737 ?_
        refine TT_iadd dL_law_738 ?_
        refine TT_saldv (v := (xs (x3 + 4).toNat)) dL_law_739 rfl hL9 o123 rfl ?_
        refine TT_sload_n dL_law_740 rfl ?_
        refine TT_iload_n dL_law_741 rfl ?_
        refine TT_iconst dL_law_742 ?_
        refine TT_iadd dL_law_743 ?_
        refine TT_saldv (v := (xs (x3 + 5).toNat)) dL_law_744 rfl hL9 o124 rfl ?_
        refine TT_sload_n dL_law_745 rfl ?_
        refine TT_iload_n dL_law_746 rfl ?_
        refine TT_bipush dL_law_747 (by decide) ?_
        refine TT_iadd dL_law_749 ?_
        refine TT_saldv (v := (xs (x3 + 6).toNat)) dL_law_750 rfl hL9 o125 rfl ?_
        refine TT_sload_n dL_law_751 rfl ?_
        refine TT_iload_n dL_law_752 rfl ?_
        refine TT_bipush dL_law_753 (by decide) ?_
        refine TT_iadd dL_law_755 ?_
        refine TT_saldv (v := (xs (x3 + 7).toNat)) dL_law_756 rfl hL9 o126 rfl ?_
        have j133 : TT (mLaw L xs) 765 [vS, vR 0, vR 80, vI x3] [vI (if (xs (x3 + 7).toNat) = 0 then 0 else 1 : Int), vI (xs (x3 + 6).toNat), vI (xs (x3 + 5).toNat), vI (xs (x3 + 4).toNat), vI (xs (x3 + 3).toNat), vI (xs (x3 + 2).toNat), vI (xs (x3 + 1).toNat), vR 80, vI y130] s131 (PI K) := by
          refine TT_callVI (M' := m_X10_visit) (as := [vI (xs (x3 + 1).toNat), vI (xs (x3 + 2).toNat), vI (xs (x3 + 3).toNat), vI (xs (x3 + 4).toNat), vI (xs (x3 + 5).toNat), vI (xs (x3 + 6).toNat), vI (if (xs (x3 + 7).toNat) = 0 then 0 else 1 : Int)]) (rest := [vI y130]) dL_law_765 mo_X10_visit ml_L_64 im_X10_visit se_X10_visit (Nat.le_of_ble_eq_true rfl) (Nat.le_of_ble_eq_true rfl) ⟨rfl, rfl, rfl⟩ rfl rfl (Nat.le_of_ble_eq_true rfl) (by decide) rfl rfl (by decide) h (fun y134 s135 h => ?_)
          obtain ⟨o136, h⟩ := h
          obtain ⟨o137, h⟩ := h
          refine TT_icmp_eq (tgt := 1688) dL_law_768 rfl o136 o137 (fun c138 => ?_) (fun c138 => ?_)
          · replace h := h.1 c138
            refine TT_iinc dL_law_1688 (Nat.le_of_ble_eq_true rfl) rfl rfl rfl ?_
            refine TT_goto (tgt := 18) dL_law_1691 rfl ?_
            exact h
          · replace h := h.2 c138
            refine TT_iconst dL_law_771 ?_
            exact TT_zret dL_law_772 rfl rfl (Or.inl rfl) h
        refine TT_if_eq (tgt := 764) dL_law_757 rfl o127 (fun c132 => ?_) (fun c132 => ?_)
        · refine TT_iconst dL_law_764 ?_
          exact TT.cast j133 (by first | rfl | (simp only [if_pos c132] <;> rfl)) (by first | rfl | (simp only [if_pos c132] <;> rfl))
        · refine TT_iconst dL_law_760 ?_
          refine TT_goto (tgt := 765) dL_law_761 rfl ?_
          exact TT.cast j133 (by first | rfl | (simp only [if_neg c132] <;> rfl)) (by first | rfl | (simp only [if_neg c132] <;> rfl))
      refine TT_if_eq (tgt := 715) dL_law_708 rfl o127 (fun c128 => ?_) (fun c128 => ?_)
      · refine TT_iconst dL_law_715 ?_
        exact TT.cast j129 (by first | rfl | (simp only [if_pos c128] <;> rfl)) (by first | rfl | (simp only [if_pos c128] <;> rfl))
      · refine TT_iconst dL_law_711 ?_
        refine TT_goto (tgt := 716) dL_law_712 rfl ?_
        exact TT.cast j129 (by first | rfl | (simp only [if_neg c128] <;> rfl)) (by first | rfl | (simp only [if_neg c128] <;> rfl))
    by_cases c374 : ((xs (x3).toNat) % 32) = 11
    · replace h := h.2.2.2.2.2.2.2.2.2.2.2.1 c374
      refine TT_tableIn (x := ((xs (x3).toNat) % 32)) (tgt := 773) (off := 740) dL_law_33 o6 (by rw [c374]; decide) (by rw [c374]; decide) (by rw [c374]; rfl) rfl ?_
      refine TT_aload_n dL_law_773 rfl ?_
      refine TT_sload_n dL_law_774 rfl ?_
      refine TT_iload_n dL_law_775 rfl ?_
      refine TT_iconst dL_law_776 ?_
      refine TT_iadd dL_law_777 ?_
      obtain ⟨o139, h⟩ := h
      refine TT_saldv (v := (xs (x3 + 1).toNat)) dL_law_778 rfl hL9 o139 rfl ?_
      refine TT_sload_n dL_law_779 rfl ?_
      refine TT_iload_n dL_law_780 rfl ?_
      refine TT_iconst dL_law_781 ?_
      refine TT_iadd dL_law_782 ?_
      obtain ⟨o140, h⟩ := h
      refine TT_saldv (v := (xs (x3 + 2).toNat)) dL_law_783 rfl hL9 o140 rfl ?_
      refine TT_sload_n dL_law_784 rfl ?_
      refine TT_iload_n dL_law_785 rfl ?_
      refine TT_iconst dL_law_786 ?_
      refine TT_iadd dL_law_787 ?_
      obtain ⟨o141, h⟩ := h
      refine TT_saldv (v := (xs (x3 + 3).toNat)) dL_law_788 rfl hL9 o141 rfl ?_
      refine TT_sload_n dL_law_789 rfl ?_
      refine TT_iload_n dL_law_790 rfl ?_
      refine TT_iconst dL_law_791 ?_
      refine TT_iadd dL_law_792 ?_
      obtain ⟨o142, h⟩ := h
      refine TT_saldv (v := (xs (x3 + 4).toNat)) dL_law_793 rfl hL9 o142 rfl ?_
      obtain ⟨o143, h⟩ := h
      have j145 : TT (mLaw L xs) 802 [vS, vR 0, vR 80, vI x3] [vI (if (xs (x3 + 4).toNat) = 0 then 0 else 1 : Int), vI (xs (x3 + 3).toNat), vI (xs (x3 + 2).toNat), vI (xs (x3 + 1).toNat), vR 0] σ (PI K) := by
        refine TT_callVJ (M' := m_X9_far) (as := [vI (xs (x3 + 1).toNat), vI (xs (x3 + 2).toNat), vI (xs (x3 + 3).toNat), vI (if (xs (x3 + 4).toNat) = 0 then 0 else 1 : Int)]) (rest := []) dL_law_802 mo_X9_far ml_L_65 im_X9_far se_X9_far (Nat.le_of_ble_eq_true rfl) (Nat.le_of_ble_eq_true rfl) ⟨rfl, rfl, rfl⟩ rfl rfl (Nat.le_of_ble_eq_true rfl) (by decide) rfl rfl (by decide) h (fun y146 s147 h => ?_)
        refine TT_aload_n dL_law_805 rfl ?_
        refine TT_sload_n dL_law_806 rfl ?_
        refine TT_iload_n dL_law_807 rfl ?_
        refine TT_iconst dL_law_808 ?_
        refine TT_iadd dL_law_809 ?_
        refine TT_saldv (v := (xs (x3 + 1).toNat)) dL_law_810 rfl hL9 o139 rfl ?_
        refine TT_sload_n dL_law_811 rfl ?_
        refine TT_iload_n dL_law_812 rfl ?_
        refine TT_iconst dL_law_813 ?_
        refine TT_iadd dL_law_814 ?_
        refine TT_saldv (v := (xs (x3 + 2).toNat)) dL_law_815 rfl hL9 o140 rfl ?_
        refine TT_sload_n dL_law_816 rfl ?_
        refine TT_iload_n dL_law_817 rfl ?_
        refine TT_iconst dL_law_818 ?_
        refine TT_iadd dL_law_819 ?_
        refine TT_saldv (v := (xs (x3 + 3).toNat)) dL_law_820 rfl hL9 o141 rfl ?_
        refine TT_sload_n dL_law_821 rfl ?_
        refine TT_iload_n dL_law_822 rfl ?_
        refine TT_iconst dL_law_823 ?_
        refine TT_iadd dL_law_824 ?_
        refine TT_saldv (v := (xs (x3 + 4).toNat)) dL_law_825 rfl hL9 o142 rfl ?_
        have j149 : TT (mLaw L xs) 834 [vS, vR 0, vR 80, vI x3] [vI (if (xs (x3 + 4).toNat) = 0 then 0 else 1 : Int), vI (xs (x3 + 3).toNat), vI (xs (x3 + 2).toNat), vI (xs (x3 + 1).toNat), vR 80, vL y146] s147 (PI K) := by
          refine TT_callVJ (M' := m_X10_far) (as := [vI (xs (x3 + 1).toNat), vI (xs (x3 + 2).toNat), vI (xs (x3 + 3).toNat), vI (if (xs (x3 + 4).toNat) = 0 then 0 else 1 : Int)]) (rest := [vL y146]) dL_law_834 mo_X10_far ml_L_69 im_X10_far se_X10_far (Nat.le_of_ble_eq_true rfl) (Nat.le_of_ble_eq_true rfl) ⟨rfl, rfl, rfl⟩ rfl rfl (Nat.le_of_ble_eq_true rfl) (by decide) rfl rfl (by decide) h (fun y150 s151 h => ?_)
          obtain ⟨o152, h⟩ := h
          obtain ⟨o153, h⟩ := h
          refine TT_lc_eq (tgt := 1688) dL_law_837 dL_law_838 rfl o152 o153 (fun c154 => ?_) (fun c154 => ?_)
          · replace h := h.1 c154
            refine TT_iinc dL_law_1688 (Nat.le_of_ble_eq_true rfl) rfl rfl rfl ?_
            refine TT_goto (tgt := 18) dL_law_1691 rfl ?_
            exact h
          · replace h := h.2 c154
            refine TT_iconst dL_law_841 ?_
            exact TT_zret dL_law_842 rfl rfl (Or.inl rfl) h
        refine TT_if_eq (tgt := 833) dL_law_826 rfl o143 (fun c148 => ?_) (fun c148 => ?_)
        · refine TT_iconst dL_law_833 ?_
          exact TT.cast j149 (by first | rfl | (simp only [if_pos c148] <;> rfl)) (by first | rfl | (simp only [if_pos c148] <;> rfl))
        · refine TT_iconst dL_law_829 ?_
          refine TT_goto (tgt := 834) dL_law_830 rfl ?_
          exact TT.cast j149 (by first | rfl | (simp only [if_neg c148] <;> rfl)) (by first | rfl | (simp only [if_neg c148] <;> rfl))
      refine TT_if_eq (tgt := 801) dL_law_794 rfl o143 (fun c144 => ?_) (fun c144 => ?_)
      · refine TT_iconst dL_law_801 ?_
        exact TT.cast j145 (by first | rfl | (simp only [if_pos c144] <;> rfl)) (by first | rfl | (simp only [if_pos c144] <;> rfl))
      · refine TT_iconst dL_law_797 ?_
        refine TT_goto (tgt := 802) dL_law_798 rfl ?_
        exact TT.cast j145 (by first | rfl | (simp only [if_neg c144] <;> rfl)) (by first | rfl | (simp only [if_neg c144] <;> rfl))
    by_cases c375 : ((xs (x3).toNat) % 32) = 12
    · replace h := h.2.2.2.2.2.2.2.2.2.2.2.2.1 c375
      refine TT_tableIn (x := ((xs (x3).toNat) % 32)) (tgt := 843) (off := 810) dL_law_33 o6 (by rw [c375]; decide) (by rw [c375]; decide) (by rw [c375]; rfl) rfl ?_
      refine TT_aload_n dL_law_843 rfl ?_
      refine TT_sload_n dL_law_844 rfl ?_
      refine TT_iload_n dL_law_845 rfl ?_
      refine TT_iconst dL_law_846 ?_
      refine TT_iadd dL_law_847 ?_
      obtain ⟨o155, h⟩ := h
      refine TT_saldv (v := (xs (x3 + 1).toNat)) dL_law_848 rfl hL9 o155 rfl ?_
      refine TT_sload_n dL_law_849 rfl ?_
      refine TT_iload_n dL_law_850 rfl ?_
      refine TT_iconst dL_law_851 ?_
      refine TT_iadd dL_law_852 ?_
      obtain ⟨o156, h⟩ := h
      refine TT_saldv (v := (xs (x3 + 2).toNat)) dL_law_853 rfl hL9 o156 rfl ?_
      refine TT_sload_n dL_law_854 rfl ?_
      refine TT_iload_n dL_law_855 rfl ?_
      refine TT_iconst dL_law_856 ?_
      refine TT_iadd dL_law_857 ?_
      obtain ⟨o157, h⟩ := h
      refine TT_saldv (v := (xs (x3 + 3).toNat)) dL_law_858 rfl hL9 o157 rfl ?_
      refine TT_callVI (M' := m_X9_nearest) (as := [vI (xs (x3 + 1).toNat), vI (xs (x3 + 2).toNat), vI (xs (x3 + 3).toNat)]) (rest := []) dL_law_859 mo_X9_nearest ml_L_70 im_X9_nearest se_X9_nearest (Nat.le_of_ble_eq_true rfl) (Nat.le_of_ble_eq_true rfl) ⟨rfl, rfl, rfl⟩ rfl rfl (Nat.le_of_ble_eq_true rfl) (by decide) rfl rfl (by decide) h (fun y158 s159 h => ?_)
      refine TT_aload_n dL_law_862 rfl ?_
      refine TT_sload_n dL_law_863 rfl ?_
      refine TT_iload_n dL_law_864 rfl ?_
      refine TT_iconst dL_law_865 ?_
      refine TT_iadd dL_law_866 ?_
      refine TT_saldv (v := (xs (x3 + 1).toNat)) dL_law_867 rfl hL9 o155 rfl ?_
      refine TT_sload_n dL_law_868 rfl ?_
      refine TT_iload_n dL_law_869 rfl ?_
      refine TT_iconst dL_law_870 ?_
      refine TT_iadd dL_law_871 ?_
      refine TT_saldv (v := (xs (x3 + 2).toNat)) dL_law_872 rfl hL9 o156 rfl ?_
      refine TT_sload_n dL_law_873 rfl ?_
      refine TT_iload_n dL_law_874 rfl ?_
      refine TT_iconst dL_law_875 ?_
      refine TT_iadd dL_law_876 ?_
      refine TT_saldv (v := (xs (x3 + 3).toNat)) dL_law_877 rfl hL9 o157 rfl ?_
      refine TT_callVI (M' := m_X10_nearest) (as := [vI (xs (x3 + 1).toNat), vI (xs (x3 + 2).toNat), vI (xs (x3 + 3).toNat)]) (rest := [vI y158]) dL_law_878 mo_X10_nearest ml_L_73 im_X10_nearest se_X10_nearest (Nat.le_of_ble_eq_true rfl) (Nat.le_of_ble_eq_true rfl) ⟨rfl, rfl, rfl⟩ rfl rfl (Nat.le_of_ble_eq_true rfl) (by decide) rfl rfl (by decide) h (fun y160 s161 h => ?_)
      obtain ⟨o162, h⟩ := h
      obtain ⟨o163, h⟩ := h
      refine TT_icmp_eq (tgt := 1688) dL_law_881 rfl o162 o163 (fun c164 => ?_) (fun c164 => ?_)
      · replace h := h.1 c164
        refine TT_iinc dL_law_1688 (Nat.le_of_ble_eq_true rfl) rfl rfl rfl ?_
        refine TT_goto (tgt := 18) dL_law_1691 rfl ?_
        exact h
      · replace h := h.2 c164
        refine TT_iconst dL_law_884 ?_
        exact TT_zret dL_law_885 rfl rfl (Or.inl rfl) h
    by_cases c376 : ((xs (x3).toNat) % 32) = 13
    · replace h := h.2.2.2.2.2.2.2.2.2.2.2.2.2.1 c376
      refine TT_tableIn (x := ((xs (x3).toNat) % 32)) (tgt := 886) (off := 853) dL_law_33 o6 (by rw [c376]; decide) (by rw [c376]; decide) (by rw [c376]; rfl) rfl ?_
      refine TT_aload_n dL_law_886 rfl ?_
      refine TT_sload_n dL_law_887 rfl ?_
      refine TT_iload_n dL_law_888 rfl ?_
      refine TT_iconst dL_law_889 ?_
      refine TT_iadd dL_law_890 ?_
      obtain ⟨o165, h⟩ := h
      refine TT_saldv (v := (xs (x3 + 1).toNat)) dL_law_891 rfl hL9 o165 rfl ?_
      refine TT_sload_n dL_law_892 rfl ?_
      refine TT_iload_n dL_law_893 rfl ?_
      refine TT_iconst dL_law_894 ?_
      refine TT_iadd dL_law_895 ?_
      obtain ⟨o166, h⟩ := h
      refine TT_saldv (v := (xs (x3 + 2).toNat)) dL_law_896 rfl hL9 o166 rfl ?_
      refine TT_sload_n dL_law_897 rfl ?_
      refine TT_iload_n dL_law_898 rfl ?_
      refine TT_iconst dL_law_899 ?_
      refine TT_iadd dL_law_900 ?_
      obtain ⟨o167, h⟩ := h
      refine TT_saldv (v := (xs (x3 + 3).toNat)) dL_law_901 rfl hL9 o167 rfl ?_
      refine TT_callVI (M' := m_X9_meetings) (as := [vI (xs (x3 + 1).toNat), vI (xs (x3 + 2).toNat), vI (xs (x3 + 3).toNat)]) (rest := []) dL_law_902 mo_X9_meetings ml_L_74 im_X9_meetings se_X9_meetings (Nat.le_of_ble_eq_true rfl) (Nat.le_of_ble_eq_true rfl) ⟨rfl, rfl, rfl⟩ rfl rfl (Nat.le_of_ble_eq_true rfl) (by decide) rfl rfl (by decide) h (fun y168 s169 h => ?_)
      refine TT_aload_n dL_law_905 rfl ?_
      refine TT_sload_n dL_law_906 rfl ?_
      refine TT_iload_n dL_law_907 rfl ?_
      refine TT_iconst dL_law_908 ?_
      refine TT_iadd dL_law_909 ?_
      refine TT_saldv (v := (xs (x3 + 1).toNat)) dL_law_910 rfl hL9 o165 rfl ?_
      refine TT_sload_n dL_law_911 rfl ?_
      refine TT_iload_n dL_law_912 rfl ?_
      refine TT_iconst dL_law_913 ?_
      refine TT_iadd dL_law_914 ?_
      refine TT_saldv (v := (xs (x3 + 2).toNat)) dL_law_915 rfl hL9 o166 rfl ?_
      refine TT_sload_n dL_law_916 rfl ?_
      refine TT_iload_n dL_law_917 rfl ?_
      refine TT_iconst dL_law_918 ?_
      refine TT_iadd dL_law_919 ?_
      refine TT_saldv (v := (xs (x3 + 3).toNat)) dL_law_920 rfl hL9 o167 rfl ?_
      refine TT_callVI (M' := m_X10_meetings) (as := [vI (xs (x3 + 1).toNat), vI (xs (x3 + 2).toNat), vI (xs (x3 + 3).toNat)]) (rest := [vI y168]) dL_law_921 mo_X10_meetings ml_L_77 im_X10_meetings se_X10_meetings (Nat.le_of_ble_eq_true rfl) (Nat.le_of_ble_eq_true rfl) ⟨rfl, rfl, rfl⟩ rfl rfl (Nat.le_of_ble_eq_true rfl) (by decide) rfl rfl (by decide) h (fun y170 s171 h => ?_)
      obtain ⟨o172, h⟩ := h
      obtain ⟨o173, h⟩ := h
      refine TT_icmp_eq (tgt := 1688) dL_law_924 rfl o172 o173 (fun c174 => ?_) (fun c174 => ?_)
      · replace h := h.1 c174
        refine TT_iinc dL_law_1688 (Nat.le_of_ble_eq_true rfl) rfl rfl rfl ?_
        refine TT_goto (tgt := 18) dL_law_1691 rfl ?_
        exact h
      · replace h := h.2 c174
        refine TT_iconst dL_law_927 ?_
        exact TT_zret dL_law_928 rfl rfl (Or.inl rfl) h
    by_cases c377 : ((xs (x3).toNat) % 32) = 14
    · replace h := h.2.2.2.2.2.2.2.2.2.2.2.2.2.2.1 c377
      refine TT_tableIn (x := ((xs (x3).toNat) % 32)) (tgt := 929) (off := 896) dL_law_33 o6 (by rw [c377]; decide) (by rw [c377]; decide) (by rw [c377]; rfl) rfl ?_
      refine TT_aload_n dL_law_929 rfl ?_
      refine TT_sload_n dL_law_930 rfl ?_
      refine TT_iload_n dL_law_931 rfl ?_
      refine TT_iconst dL_law_932 ?_
      refine TT_iadd dL_law_933 ?_
      obtain ⟨o175, h⟩ := h
      refine TT_saldv (v := (xs (x3 + 1).toNat)) dL_law_934 rfl hL9 o175 rfl ?_
      refine TT_sload_n dL_law_935 rfl ?_
      refine TT_iload_n dL_law_936 rfl ?_
      refine TT_iconst dL_law_937 ?_
      refine TT_iadd dL_law_938 ?_
      obtain ⟨o176, h⟩ := h
      refine TT_saldv (v := (xs (x3 + 2).toNat)) dL_law_939 rfl hL9 o176 rfl ?_
      refine TT_sload_n dL_law_940 rfl ?_
      refine TT_iload_n dL_law_941 rfl ?_
      refine TT_iconst dL_law_942 ?_
      refine TT_iadd dL_law_943 ?_
      obtain ⟨o177, h⟩ := h
      refine TT_saldv (v := (xs (x3 + 3).toNat)) dL_law_944 rfl hL9 o177 rfl ?_
      refine TT_sload_n dL_law_945 rfl ?_
      refine TT_iload_n dL_law_946 rfl ?_
      refine TT_iconst dL_law_947 ?_
      refine TT_iadd dL_law_948 ?_
      obtain ⟨o178, h⟩ := h
      refine TT_saldv (v := (xs (x3 + 4).toNat)) dL_law_949 rfl hL9 o178 rfl ?_
      obtain ⟨o179, h⟩ := h
      have j181 : TT (mLaw L xs) 958 [vS, vR 0, vR 80, vI x3] [vI (if (xs (x3 + 4).toNat) = 0 then 0 else 1 : Int), vI (xs (x3 + 3).toNat), vI (xs (x3 + 2).toNat), vI (xs (x3 + 1).toNat), vR 0] σ (PI K) := by
        refine TT_callVI (M' := m_X9_longest) (as := [vI (xs (x3 + 1).toNat), vI (xs (x3 + 2).toNat), vI (xs (x3 + 3).toNat), vI (if (xs (x3 + 4).toNat) = 0 then 0 else 1 : Int)]) (rest := []) dL_law_958 mo_X9_longest ml_L_78 im_X9_longest se_X9_longest (Nat.le_of_ble_eq_true rfl) (Nat.le_of_ble_eq_true rfl) ⟨rfl, rfl, rfl⟩ rfl rfl (Nat.le_of_ble_eq_true rfl) (by decide) rfl rfl (by decide) h (fun y182 s183 h => ?_)
        refine TT_aload_n dL_law_961 rfl ?_
        refine TT_sload_n dL_law_962 rfl ?_
        refine TT_iload_n dL_law_963 rfl ?_
        refine TT_iconst dL_law_964 ?_
        refine TT_iadd dL_law_965 ?_
        refine TT_saldv (v := (xs (x3 + 1).toNat)) dL_law_966 rfl hL9 o175 rfl ?_
        refine TT_sload_n dL_law_967 rfl ?_
        refine TT_iload_n dL_law_968 rfl ?_
        refine TT_iconst dL_law_969 ?_
        refine TT_iadd dL_law_970 ?_
        refine TT_saldv (v := (xs (x3 + 2).toNat)) dL_law_971 rfl hL9 o176 rfl ?_
        refine TT_sload_n dL_law_972 rfl ?_
        refine TT_iload_n dL_law_973 rfl ?_
        refine TT_iconst dL_law_974 ?_
        refine TT_iadd dL_law_975 ?_
        refine TT_saldv (v := (xs (x3 + 3).toNat)) dL_law_976 rfl hL9 o177 rfl ?_
        refine TT_sload_n dL_law_977 rfl ?_
        refine TT_iload_n dL_law_978 rfl ?_
        refine TT_iconst dL_law_979 ?_
        refine TT_iadd dL_law_980 ?_
        refine TT_saldv (v := (xs (x3 + 4).toNat)) dL_law_981 rfl hL9 o178 rfl ?_
        have j185 : TT (mLaw L xs) 990 [vS, vR 0, vR 80, vI x3] [vI (if (xs (x3 + 4).toNat) = 0 then 0 else 1 : Int), vI (xs (x3 + 3).toNat), vI (xs (x3 + 2).toNat), vI (xs (x3 + 1).toNat), vR 80, vI y182] s183 (PI K) := by
          refine TT_callVI (M' := m_X10_longest) (as := [vI (xs (x3 + 1).toNat), vI (xs (x3 + 2).toNat), vI (xs (x3 + 3).toNat), vI (if (xs (x3 + 4).toNat) = 0 then 0 else 1 : Int)]) (rest := [vI y182]) dL_law_990 mo_X10_longest ml_L_82 im_X10_longest se_X10_longest (Nat.le_of_ble_eq_true rfl) (Nat.le_of_ble_eq_true rfl) ⟨rfl, rfl, rfl⟩ rfl rfl (Nat.le_of_ble_eq_true rfl) (by decide) rfl rfl (by decide) h (fun y186 s187 h => ?_)
          obtain ⟨o188, h⟩ := h
          obtain ⟨o189, h⟩ := h
          refine TT_icmp_eq (tgt := 1688) dL_law_993 rfl o188 o189 (fun c190 => ?_) (fun c190 => ?_)
          · replace h := h.1 c190
            refine TT_iinc dL_law_1688 (Nat.le_of_ble_eq_true rfl) rfl rfl rfl ?_
            refine TT_goto (tgt := 18) dL_law_1691 rfl ?_
            exact h
          · replace h := h.2 c190
            refine TT_iconst dL_law_996 ?_
            exact TT_zret dL_law_997 rfl rfl (Or.inl rfl) h
        refine TT_if_eq (tgt := 989) dL_law_982 rfl o179 (fun c184 => ?_) (fun c184 => ?_)
        · refine TT_iconst dL_law_989 ?_
          exact TT.cast j185 (by first | rfl | (simp only [if_pos c184] <;> rfl)) (by first | rfl | (simp only [if_pos c184] <;> rfl))
        · refine TT_iconst dL_law_985 ?_
          refine TT_goto (tgt := 990) dL_law_986 rfl ?_
          exact TT.cast j185 (by first | rfl | (simp only [if_neg c184] <;> rfl)) (by first | rfl | (simp only [if_neg c184] <;> rfl))
      refine TT_if_eq (tgt := 957) dL_law_950 rfl o179 (fun c180 => ?_) (fun c180 => ?_)
      · refine TT_iconst dL_law_957 ?_
        exact TT.cast j181 (by first | rfl | (simp only [if_pos c180] <;> rfl)) (by first | rfl | (simp only [if_pos c180] <;> rfl))
      · refine TT_iconst dL_law_953 ?_
        refine TT_goto (tgt := 958) dL_law_954 rfl ?_
        exact TT.cast j181 (by first | rfl | (simp only [if_neg c180] <;> rfl)) (by first | rfl | (simp only [if_neg c180] <;> rfl))
    by_cases c378 : ((xs (x3).toNat) % 32) = 15
    · replace h := h.2.2.2.2.2.2.2.2.2.2.2.2.2.2.2.1 c378
      refine TT_tableIn (x := ((xs (x3).toNat) % 32)) (tgt := 998) (off := 965) dL_law_33 o6 (by rw [c378]; decide) (by rw [c378]; decide) (by rw [c378]; rfl) rfl ?_
      refine TT_aload_n dL_law_998 rfl ?_
      refine TT_sload_n dL_law_999 rfl ?_
      refine TT_iload_n dL_law_1000 rfl ?_
      refine TT_iconst dL_law_1001 ?_
      refine TT_iadd dL_law_1002 ?_
      obtain ⟨o191, h⟩ := h
      refine TT_saldv (v := (xs (x3 + 1).toNat)) dL_law_1003 rfl hL9 o191 rfl ?_
      refine TT_callVI (M' := m_X9_pages) (as := [vI (xs (x3 + 1).toNat)]) (rest := []) dL_law_1004 mo_X9_pages ml_L_83 im_X9_pages se_X9_pages (Nat.le_of_ble_eq_true rfl) (Nat.le_of_ble_eq_true rfl) ⟨rfl, rfl, rfl⟩ rfl rfl (Nat.le_of_ble_eq_true rfl) (by decide) rfl rfl (by decide) h (fun y192 s193 h => ?_)
      refine TT_aload_n dL_law_1007 rfl ?_
      refine TT_sload_n dL_law_1008 rfl ?_
      refine TT_iload_n dL_law_1009 rfl ?_
      refine TT_iconst dL_law_1010 ?_
      refine TT_iadd dL_law_1011 ?_
      refine TT_saldv (v := (xs (x3 + 1).toNat)) dL_law_1012 rfl hL9 o191 rfl ?_
      refine TT_callVI (M' := m_X10_pages) (as := [vI (xs (x3 + 1).toNat)]) (rest := [vI y192]) dL_law_1013 mo_X10_pages ml_L_87 im_X10_pages se_X10_pages (Nat.le_of_ble_eq_true rfl) (Nat.le_of_ble_eq_true rfl) ⟨rfl, rfl, rfl⟩ rfl rfl (Nat.le_of_ble_eq_true rfl) (by decide) rfl rfl (by decide) h (fun y194 s195 h => ?_)
      obtain ⟨o196, h⟩ := h
      obtain ⟨o197, h⟩ := h
      refine TT_icmp_eq (tgt := 1688) dL_law_1016 rfl o196 o197 (fun c198 => ?_) (fun c198 => ?_)
      · replace h := h.1 c198
        refine TT_iinc dL_law_1688 (Nat.le_of_ble_eq_true rfl) rfl rfl rfl ?_
        refine TT_goto (tgt := 18) dL_law_1691 rfl ?_
        exact h
      · replace h := h.2 c198
        refine TT_iconst dL_law_1019 ?_
        exact TT_zret dL_law_1020 rfl rfl (Or.inl rfl) h
    by_cases c379 : ((xs (x3).toNat) % 32) = 16
    · replace h := h.2.2.2.2.2.2.2.2.2.2.2.2.2.2.2.2.1 c379
      refine TT_tableIn (x := ((xs (x3).toNat) % 32)) (tgt := 1021) (off := 988) dL_law_33 o6 (by rw [c379]; decide) (by rw [c379]; decide) (by rw [c379]; rfl) rfl ?_
      refine TT_aload_n dL_law_1021 rfl ?_
      refine TT_callVJ (M' := m_X9_size) (as := []) (rest := []) dL_law_1022 mo_X9_size ml_L_88 im_X9_size se_X9_size (Nat.le_of_ble_eq_true rfl) (Nat.le_of_ble_eq_true rfl) ⟨rfl, rfl, rfl⟩ rfl rfl (Nat.le_of_ble_eq_true rfl) (by decide) rfl rfl (by decide) h (fun y199 s200 h => ?_)
      refine TT_aload_n dL_law_1025 rfl ?_
      refine TT_callVJ (M' := m_X10_size) (as := []) (rest := [vL y199]) dL_law_1026 mo_X10_size ml_L_92 im_X10_size se_X10_size (Nat.le_of_ble_eq_true rfl) (Nat.le_of_ble_eq_true rfl) ⟨rfl, rfl, rfl⟩ rfl rfl (Nat.le_of_ble_eq_true rfl) (by decide) rfl rfl (by decide) h (fun y201 s202 h => ?_)
      obtain ⟨o203, h⟩ := h
      obtain ⟨o204, h⟩ := h
      refine TT_lc_eq (tgt := 1688) dL_law_1029 dL_law_1030 rfl o203 o204 (fun c205 => ?_) (fun c205 => ?_)
      · replace h := h.1 c205
        refine TT_iinc dL_law_1688 (Nat.le_of_ble_eq_true rfl) rfl rfl rfl ?_
        refine TT_goto (tgt := 18) dL_law_1691 rfl ?_
        exact h
      · replace h := h.2 c205
        refine TT_iconst dL_law_1033 ?_
        exact TT_zret dL_law_1034 rfl rfl (Or.inl rfl) h
    by_cases c380 : ((xs (x3).toNat) % 32) = 17
    · replace h := h.2.2.2.2.2.2.2.2.2.2.2.2.2.2.2.2.2.1 c380
      refine TT_tableIn (x := ((xs (x3).toNat) % 32)) (tgt := 1035) (off := 1002) dL_law_33 o6 (by rw [c380]; decide) (by rw [c380]; decide) (by rw [c380]; rfl) rfl ?_
      refine TT_aload_n dL_law_1035 rfl ?_
      refine TT_sload_n dL_law_1036 rfl ?_
      refine TT_iload_n dL_law_1037 rfl ?_
      refine TT_iconst dL_law_1038 ?_
      refine TT_iadd dL_law_1039 ?_
      obtain ⟨o206, h⟩ := h
      refine TT_saldv (v := (xs (x3 + 1).toNat)) dL_law_1040 rfl hL9 o206 rfl ?_
      refine TT_sload_n dL_law_1041 rfl ?_
      refine TT_iload_n dL_law_1042 rfl ?_
      refine TT_iconst dL_law_1043 ?_
      refine TT_iadd dL_law_1044 ?_
      obtain ⟨o207, h⟩ := h
      refine TT_saldv (v := (xs (x3 + 2).toNat)) dL_law_1045 rfl hL9 o207 rfl ?_
      refine TT_sload_n dL_law_1046 rfl ?_
      refine TT_iload_n dL_law_1047 rfl ?_
      refine TT_iconst dL_law_1048 ?_
      refine TT_iadd dL_law_1049 ?_
      obtain ⟨o208, h⟩ := h
      refine TT_saldv (v := (xs (x3 + 3).toNat)) dL_law_1050 rfl hL9 o208 rfl ?_
      refine TT_sload_n dL_law_1051 rfl ?_
      refine TT_iload_n dL_law_1052 rfl ?_
      refine TT_iconst dL_law_1053 ?_
      refine TT_iadd dL_law_1054 ?_
      obtain ⟨o209, h⟩ := h
      refine TT_saldv (v := (xs (x3 + 4).toNat)) dL_law_1055 rfl hL9 o209 rfl ?_
      refine TT_sload_n dL_law_1056 rfl ?_
      refine TT_iload_n dL_law_1057 rfl ?_
      refine TT_iconst dL_law_1058 ?_
      refine TT_iadd dL_law_1059 ?_
      obtain ⟨o210, h⟩ := h
      refine TT_saldv (v := (xs (x3 + 5).toNat)) dL_law_1060 rfl hL9 o210 rfl ?_
      refine TT_sload_n dL_law_1061 rfl ?_
      refine TT_iload_n dL_law_1062 rfl ?_
      refine TT_bipush dL_law_1063 (by decide) ?_
      refine TT_iadd dL_law_1065 ?_
      obtain ⟨o211, h⟩ := h
      refine TT_saldv (v := (xs (x3 + 6).toNat)) dL_law_1066 rfl hL9 o211 rfl ?_
      refine TT_sload_n dL_law_1067 rfl ?_
      refine TT_iload_n dL_law_1068 rfl ?_
      refine TT_bipush dL_law_1069 (by decide) ?_
      refine TT_iadd dL_law_1071 ?_
      obtain ⟨o212, h⟩ := h
      refine TT_saldv (v := (xs (x3 + 7).toNat)) dL_law_1072 rfl hL9 o212 rfl ?_
      obtain ⟨o213, h⟩ := h
      have j215 : TT (mLaw L xs) 1081 [vS, vR 0, vR 80, vI x3] [vI (if (xs (x3 + 7).toNat) = 0 then 0 else 1 : Int), vI (xs (x3 + 6).toNat), vI (xs (x3 + 5).toNat), vI (xs (x3 + 4).toNat), vI (xs (x3 + 3).toNat), vI (xs (x3 + 2).toNat), vI (xs (x3 + 1).toNat), vR 0] σ (PI K) := by
        refine TT_callVI (M' := m_X9_opens) (as := [vI (xs (x3 + 1).toNat), vI (xs (x3 + 2).toNat), vI (xs (x3 + 3).toNat), vI (xs (x3 + 4).toNat), vI (xs (x3 + 5).toNat), vI (xs (x3 + 6).toNat), vI (if (xs (x3 + 7).toNat) = 0 then 0 else 1 : Int)]) (rest := []) dL_law_1081 mo_X9_opens ml_L_93 im_X9_opens se_X9_opens (Nat.le_of_ble_eq_true rfl) (Nat.le_of_ble_eq_true rfl) ⟨rfl, rfl, rfl⟩ rfl rfl (Nat.le_of_ble_eq_true rfl) (by decide) rfl rfl (by decide) h (fun y216 s217 h => ?_)
        refine TT_aload_n dL_law_1084 rfl ?_
        refine TT_sload_n dL_law_1085 rfl ?_
        refine TT_iload_n dL_law_1086 rfl ?_
        refine TT_iconst dL_law_1087 ?_
        refine TT_iadd dL_law_1088 ?_
        refine TT_saldv (v := (xs (x3 + 1).toNat)) dL_law_1089 rfl hL9 o206 rfl ?_
        refine TT_sload_n dL_law_1090 rfl ?_
        refine TT_iload_n dL_law_1091 rfl ?_
        refine TT_iconst dL_law_1092 ?_
        refine TT_iadd dL_law_1093 ?_
        refine TT_saldv (v := (xs (x3 + 2).toNat)) dL_law_1094 rfl hL9 o207 rfl ?_
        refine TT_sload_n dL_law_1095 rfl ?_
        refine TT_iload_n dL_law_1096 rfl ?_
        refine TT_iconst dL_law_1097 ?_
        refine TT_iadd dL_law_1098 ?_
        refine TT_saldv (v := (xs (x3 + 3).toNat)) dL_law_1099 rfl hL9 o208 rfl ?_
        refine TT_sload_n dL_law_1100 rfl ?_
        refine TT_iload_n dL_law_1101 rfl ?_
        refine TT_iconst dL_law_1102 ?_
        refine TT_iadd dL_law_1103 ?_
        refine TT_saldv (v := (xs (x3 + 4).toNat)) dL_law_1104 rfl hL9 o209 rfl ?_
        refine TT_sload_n dL_law_1105 rfl ?_
        refine TT_iload_n dL_law_1106 rfl ?_
        refine TT_iconst dL_law_1107 ?_
        refine TT_iadd dL_law_1108 ?_
        refine TT_saldv (v := (xs (x3 + 5).toNat)) dL_law_1109 rfl hL9 o210 rfl ?_
        refine TT_sload_n dL_law_1110 rfl ?_
        refine TT_iload_n dL_law_1111 rfl ?_
        refine TT_bipush dL_law_1112 (by decide) ?_
        refine TT_iadd dL_law_1114 ?_
        refine TT_saldv (v := (xs (x3 + 6).toNat)) dL_law_1115 rfl hL9 o211 rfl ?_
        refine TT_sload_n dL_law_1116 rfl ?_
        refine TT_iload_n dL_law_1117 rfl ?_
        refine TT_bipush dL_law_1118 (by decide) ?_
        refine TT_iadd dL_law_1120 ?_
        refine TT_saldv (v := (xs (x3 + 7).toNat)) dL_law_1121 rfl hL9 o212 rfl ?_
        have j219 : TT (mLaw L xs) 1130 [vS, vR 0, vR 80, vI x3] [vI (if (xs (x3 + 7).toNat) = 0 then 0 else 1 : Int), vI (xs (x3 + 6).toNat), vI (xs (x3 + 5).toNat), vI (xs (x3 + 4).toNat), vI (xs (x3 + 3).toNat), vI (xs (x3 + 2).toNat), vI (xs (x3 + 1).toNat), vR 80, vI y216] s217 (PI K) := by
          refine TT_callVI (M' := m_X10_opens) (as := [vI (xs (x3 + 1).toNat), vI (xs (x3 + 2).toNat), vI (xs (x3 + 3).toNat), vI (xs (x3 + 4).toNat), vI (xs (x3 + 5).toNat), vI (xs (x3 + 6).toNat), vI (if (xs (x3 + 7).toNat) = 0 then 0 else 1 : Int)]) (rest := [vI y216]) dL_law_1130 mo_X10_opens ml_L_96 im_X10_opens se_X10_opens (Nat.le_of_ble_eq_true rfl) (Nat.le_of_ble_eq_true rfl) ⟨rfl, rfl, rfl⟩ rfl rfl (Nat.le_of_ble_eq_true rfl) (by decide) rfl rfl (by decide) h (fun y220 s221 h => ?_)
          obtain ⟨o222, h⟩ := h
          obtain ⟨o223, h⟩ := h
          refine TT_icmp_eq (tgt := 1688) dL_law_1133 rfl o222 o223 (fun c224 => ?_) (fun c224 => ?_)
          · replace h := h.1 c224
            refine TT_iinc dL_law_1688 (Nat.le_of_ble_eq_true rfl) rfl rfl rfl ?_
            refine TT_goto (tgt := 18) dL_law_1691 rfl ?_
            exact h
          · replace h := h.2 c224
            refine TT_iconst dL_law_1136 ?_
            exact TT_zret dL_law_1137 rfl rfl (Or.inl rfl) h
        refine TT_if_eq (tgt := 1129) dL_law_1122 rfl o213 (fun c218 => ?_) (fun c218 => ?_)
        · refine TT_iconst dL_law_1129 ?_
          exact TT.cast j219 (by first | rfl | (simp only [if_pos c218] <;> rfl)) (by first | rfl | (simp only [if_pos c218] <;> rfl))
        · refine TT_iconst dL_law_1125 ?_
          refine TT_goto (tgt := 1130) dL_law_1126 rfl ?_
          exact TT.cast j219 (by first | rfl | (simp only [if_neg c218] <;> rfl)) (by first | rfl | (simp only [if_neg c218] <;> rfl))
      refine TT_if_eq (tgt := 1080) dL_law_1073 rfl o213 (fun c214 => ?_) (fun c214 => ?_)
      · refine TT_iconst dL_law_1080 ?_
        exact TT.cast j215 (by first | rfl | (simp only [if_pos c214] <;> rfl)) (by first | rfl | (simp only [if_pos c214] <;> rfl))
      · refine TT_iconst dL_law_1076 ?_
        refine TT_goto (tgt := 1081) dL_law_1077 rfl ?_
        exact TT.cast j215 (by first | rfl | (simp only [if_neg c214] <;> rfl)) (by first | rfl | (simp only [if_neg c214] <;> rfl))
    by_cases c381 : ((xs (x3).toNat) % 32) = 18
    · replace h := h.2.2.2.2.2.2.2.2.2.2.2.2.2.2.2.2.2.2.1 c381
      refine TT_tableIn (x := ((xs (x3).toNat) % 32)) (tgt := 1138) (off := 1105) dL_law_33 o6 (by rw [c381]; decide) (by rw [c381]; decide) (by rw [c381]; rfl) rfl ?_
      refine TT_aload_n dL_law_1138 rfl ?_
      refine TT_sload_n dL_law_1139 rfl ?_
      refine TT_iload_n dL_law_1140 rfl ?_
      refine TT_iconst dL_law_1141 ?_
      refine TT_iadd dL_law_1142 ?_
      obtain ⟨o225, h⟩ := h
      refine TT_saldv (v := (xs (x3 + 1).toNat)) dL_law_1143 rfl hL9 o225 rfl ?_
      refine TT_sload_n dL_law_1144 rfl ?_
      refine TT_iload_n dL_law_1145 rfl ?_
      refine TT_iconst dL_law_1146 ?_
      refine TT_iadd dL_law_1147 ?_
      obtain ⟨o226, h⟩ := h
      refine TT_saldv (v := (xs (x3 + 2).toNat)) dL_law_1148 rfl hL9 o226 rfl ?_
      refine TT_callVI (M' := m_X9_thin) (as := [vI (xs (x3 + 1).toNat), vI (xs (x3 + 2).toNat)]) (rest := []) dL_law_1149 mo_X9_thin ml_L_97 im_X9_thin se_X9_thin (Nat.le_of_ble_eq_true rfl) (Nat.le_of_ble_eq_true rfl) ⟨rfl, rfl, rfl⟩ rfl rfl (Nat.le_of_ble_eq_true rfl) (by decide) rfl rfl (by decide) h (fun y227 s228 h => ?_)
      refine TT_aload_n dL_law_1152 rfl ?_
      refine TT_sload_n dL_law_1153 rfl ?_
      refine TT_iload_n dL_law_1154 rfl ?_
      refine TT_iconst dL_law_1155 ?_
      refine TT_iadd dL_law_1156 ?_
      refine TT_saldv (v := (xs (x3 + 1).toNat)) dL_law_1157 rfl hL9 o225 rfl ?_
      refine TT_sload_n dL_law_1158 rfl ?_
      refine TT_iload_n dL_law_1159 rfl ?_
      refine TT_iconst dL_law_1160 ?_
      refine TT_iadd dL_law_1161 ?_
      refine TT_saldv (v := (xs (x3 + 2).toNat)) dL_law_1162 rfl hL9 o226 rfl ?_
      refine TT_callVI (M' := m_X10_thin) (as := [vI (xs (x3 + 1).toNat), vI (xs (x3 + 2).toNat)]) (rest := [vI y227]) dL_law_1163 mo_X10_thin ml_L_100 im_X10_thin se_X10_thin (Nat.le_of_ble_eq_true rfl) (Nat.le_of_ble_eq_true rfl) ⟨rfl, rfl, rfl⟩ rfl rfl (Nat.le_of_ble_eq_true rfl) (by decide) rfl rfl (by decide) h (fun y229 s230 h => ?_)
      obtain ⟨o231, h⟩ := h
      obtain ⟨o232, h⟩ := h
      refine TT_icmp_eq (tgt := 1688) dL_law_1166 rfl o231 o232 (fun c233 => ?_) (fun c233 => ?_)
      · replace h := h.1 c233
        refine TT_iinc dL_law_1688 (Nat.le_of_ble_eq_true rfl) rfl rfl rfl ?_
        refine TT_goto (tgt := 18) dL_law_1691 rfl ?_
        exact h
      · replace h := h.2 c233
        refine TT_iconst dL_law_1169 ?_
        exact TT_zret dL_law_1170 rfl rfl (Or.inl rfl) h
    by_cases c382 : ((xs (x3).toNat) % 32) = 19
    · replace h := h.2.2.2.2.2.2.2.2.2.2.2.2.2.2.2.2.2.2.2.1 c382
      refine TT_tableIn (x := ((xs (x3).toNat) % 32)) (tgt := 1171) (off := 1138) dL_law_33 o6 (by rw [c382]; decide) (by rw [c382]; decide) (by rw [c382]; rfl) rfl ?_
      refine TT_aload_n dL_law_1171 rfl ?_
      refine TT_sload_n dL_law_1172 rfl ?_
      refine TT_iload_n dL_law_1173 rfl ?_
      refine TT_iconst dL_law_1174 ?_
      refine TT_iadd dL_law_1175 ?_
      obtain ⟨o234, h⟩ := h
      refine TT_saldv (v := (xs (x3 + 1).toNat)) dL_law_1176 rfl hL9 o234 rfl ?_
      refine TT_sload_n dL_law_1177 rfl ?_
      refine TT_iload_n dL_law_1178 rfl ?_
      refine TT_iconst dL_law_1179 ?_
      refine TT_iadd dL_law_1180 ?_
      obtain ⟨o235, h⟩ := h
      refine TT_saldv (v := (xs (x3 + 2).toNat)) dL_law_1181 rfl hL9 o235 rfl ?_
      refine TT_sload_n dL_law_1182 rfl ?_
      refine TT_iload_n dL_law_1183 rfl ?_
      refine TT_iconst dL_law_1184 ?_
      refine TT_iadd dL_law_1185 ?_
      obtain ⟨o236, h⟩ := h
      refine TT_saldv (v := (xs (x3 + 3).toNat)) dL_law_1186 rfl hL9 o236 rfl ?_
      refine TT_callVI (M' := m_X9_kept) (as := [vI (xs (x3 + 1).toNat), vI (xs (x3 + 2).toNat), vI (xs (x3 + 3).toNat)]) (rest := []) dL_law_1187 mo_X9_kept ml_L_101 im_X9_kept se_X9_kept (Nat.le_of_ble_eq_true rfl) (Nat.le_of_ble_eq_true rfl) ⟨rfl, rfl, rfl⟩ rfl rfl (Nat.le_of_ble_eq_true rfl) (by decide) rfl rfl (by decide) h (fun y237 s238 h => ?_)
      refine TT_aload_n dL_law_1190 rfl ?_
      refine TT_sload_n dL_law_1191 rfl ?_
      refine TT_iload_n dL_law_1192 rfl ?_
      refine TT_iconst dL_law_1193 ?_
      refine TT_iadd dL_law_1194 ?_
      refine TT_saldv (v := (xs (x3 + 1).toNat)) dL_law_1195 rfl hL9 o234 rfl ?_
      refine TT_sload_n dL_law_1196 rfl ?_
      refine TT_iload_n dL_law_1197 rfl ?_
      refine TT_iconst dL_law_1198 ?_
      refine TT_iadd dL_law_1199 ?_
      refine TT_saldv (v := (xs (x3 + 2).toNat)) dL_law_1200 rfl hL9 o235 rfl ?_
      refine TT_sload_n dL_law_1201 rfl ?_
      refine TT_iload_n dL_law_1202 rfl ?_
      refine TT_iconst dL_law_1203 ?_
      refine TT_iadd dL_law_1204 ?_
      refine TT_saldv (v := (xs (x3 + 3).toNat)) dL_law_1205 rfl hL9 o236 rfl ?_
      refine TT_callVI (M' := m_X10_kept) (as := [vI (xs (x3 + 1).toNat), vI (xs (x3 + 2).toNat), vI (xs (x3 + 3).toNat)]) (rest := [vI y237]) dL_law_1206 mo_X10_kept ml_L_104 im_X10_kept se_X10_kept (Nat.le_of_ble_eq_true rfl) (Nat.le_of_ble_eq_true rfl) ⟨rfl, rfl, rfl⟩ rfl rfl (Nat.le_of_ble_eq_true rfl) (by decide) rfl rfl (by decide) h (fun y239 s240 h => ?_)
      obtain ⟨o241, h⟩ := h
      obtain ⟨o242, h⟩ := h
      refine TT_icmp_eq (tgt := 1688) dL_law_1209 rfl o241 o242 (fun c243 => ?_) (fun c243 => ?_)
      · replace h := h.1 c243
        refine TT_iinc dL_law_1688 (Nat.le_of_ble_eq_true rfl) rfl rfl rfl ?_
        refine TT_goto (tgt := 18) dL_law_1691 rfl ?_
        exact h
      · replace h := h.2 c243
        refine TT_iconst dL_law_1212 ?_
        exact TT_zret dL_law_1213 rfl rfl (Or.inl rfl) h
    by_cases c383 : ((xs (x3).toNat) % 32) = 20
    · replace h := h.2.2.2.2.2.2.2.2.2.2.2.2.2.2.2.2.2.2.2.2.1 c383
      refine TT_tableIn (x := ((xs (x3).toNat) % 32)) (tgt := 1214) (off := 1181) dL_law_33 o6 (by rw [c383]; decide) (by rw [c383]; decide) (by rw [c383]; rfl) rfl ?_
      refine TT_aload_n dL_law_1214 rfl ?_
      refine TT_sload_n dL_law_1215 rfl ?_
      refine TT_iload_n dL_law_1216 rfl ?_
      refine TT_iconst dL_law_1217 ?_
      refine TT_iadd dL_law_1218 ?_
      obtain ⟨o244, h⟩ := h
      refine TT_saldv (v := (xs (x3 + 1).toNat)) dL_law_1219 rfl hL9 o244 rfl ?_
      refine TT_sload_n dL_law_1220 rfl ?_
      refine TT_iload_n dL_law_1221 rfl ?_
      refine TT_iconst dL_law_1222 ?_
      refine TT_iadd dL_law_1223 ?_
      obtain ⟨o245, h⟩ := h
      refine TT_saldv (v := (xs (x3 + 2).toNat)) dL_law_1224 rfl hL9 o245 rfl ?_
      refine TT_callVI (M' := m_X9_thinned) (as := [vI (xs (x3 + 1).toNat), vI (xs (x3 + 2).toNat)]) (rest := []) dL_law_1225 mo_X9_thinned ml_L_105 im_X9_thinned se_X9_thinned (Nat.le_of_ble_eq_true rfl) (Nat.le_of_ble_eq_true rfl) ⟨rfl, rfl, rfl⟩ rfl rfl (Nat.le_of_ble_eq_true rfl) (by decide) rfl rfl (by decide) h (fun y246 s247 h => ?_)
      refine TT_aload_n dL_law_1228 rfl ?_
      refine TT_sload_n dL_law_1229 rfl ?_
      refine TT_iload_n dL_law_1230 rfl ?_
      refine TT_iconst dL_law_1231 ?_
      refine TT_iadd dL_law_1232 ?_
      refine TT_saldv (v := (xs (x3 + 1).toNat)) dL_law_1233 rfl hL9 o244 rfl ?_
      refine TT_sload_n dL_law_1234 rfl ?_
      refine TT_iload_n dL_law_1235 rfl ?_
      refine TT_iconst dL_law_1236 ?_
      refine TT_iadd dL_law_1237 ?_
      refine TT_saldv (v := (xs (x3 + 2).toNat)) dL_law_1238 rfl hL9 o245 rfl ?_
      refine TT_callVI (M' := m_X10_thinned) (as := [vI (xs (x3 + 1).toNat), vI (xs (x3 + 2).toNat)]) (rest := [vI y246]) dL_law_1239 mo_X10_thinned ml_L_108 im_X10_thinned se_X10_thinned (Nat.le_of_ble_eq_true rfl) (Nat.le_of_ble_eq_true rfl) ⟨rfl, rfl, rfl⟩ rfl rfl (Nat.le_of_ble_eq_true rfl) (by decide) rfl rfl (by decide) h (fun y248 s249 h => ?_)
      obtain ⟨o250, h⟩ := h
      obtain ⟨o251, h⟩ := h
      refine TT_icmp_eq (tgt := 1688) dL_law_1242 rfl o250 o251 (fun c252 => ?_) (fun c252 => ?_)
      · replace h := h.1 c252
        refine TT_iinc dL_law_1688 (Nat.le_of_ble_eq_true rfl) rfl rfl rfl ?_
        refine TT_goto (tgt := 18) dL_law_1691 rfl ?_
        exact h
      · replace h := h.2 c252
        refine TT_iconst dL_law_1245 ?_
        exact TT_zret dL_law_1246 rfl rfl (Or.inl rfl) h
    by_cases c384 : ((xs (x3).toNat) % 32) = 21
    · replace h := h.2.2.2.2.2.2.2.2.2.2.2.2.2.2.2.2.2.2.2.2.2.1 c384
      refine TT_tableIn (x := ((xs (x3).toNat) % 32)) (tgt := 1247) (off := 1214) dL_law_33 o6 (by rw [c384]; decide) (by rw [c384]; decide) (by rw [c384]; rfl) rfl ?_
      refine TT_aload_n dL_law_1247 rfl ?_
      refine TT_sload_n dL_law_1248 rfl ?_
      refine TT_iload_n dL_law_1249 rfl ?_
      refine TT_iconst dL_law_1250 ?_
      refine TT_iadd dL_law_1251 ?_
      obtain ⟨o253, h⟩ := h
      refine TT_saldv (v := (xs (x3 + 1).toNat)) dL_law_1252 rfl hL9 o253 rfl ?_
      refine TT_callVI (M' := m_X9_pass) (as := [vI (xs (x3 + 1).toNat)]) (rest := []) dL_law_1253 mo_X9_pass ml_L_109 im_X9_pass se_X9_pass (Nat.le_of_ble_eq_true rfl) (Nat.le_of_ble_eq_true rfl) ⟨rfl, rfl, rfl⟩ rfl rfl (Nat.le_of_ble_eq_true rfl) (by decide) rfl rfl (by decide) h (fun y254 s255 h => ?_)
      refine TT_aload_n dL_law_1256 rfl ?_
      refine TT_sload_n dL_law_1257 rfl ?_
      refine TT_iload_n dL_law_1258 rfl ?_
      refine TT_iconst dL_law_1259 ?_
      refine TT_iadd dL_law_1260 ?_
      refine TT_saldv (v := (xs (x3 + 1).toNat)) dL_law_1261 rfl hL9 o253 rfl ?_
      refine TT_callVI (M' := m_X10_pass) (as := [vI (xs (x3 + 1).toNat)]) (rest := [vI y254]) dL_law_1262 mo_X10_pass ml_L_112 im_X10_pass se_X10_pass (Nat.le_of_ble_eq_true rfl) (Nat.le_of_ble_eq_true rfl) ⟨rfl, rfl, rfl⟩ rfl rfl (Nat.le_of_ble_eq_true rfl) (by decide) rfl rfl (by decide) h (fun y256 s257 h => ?_)
      obtain ⟨o258, h⟩ := h
      obtain ⟨o259, h⟩ := h
      refine TT_icmp_eq (tgt := 1688) dL_law_1265 rfl o258 o259 (fun c260 => ?_) (fun c260 => ?_)
      · replace h := h.1 c260
        refine TT_iinc dL_law_1688 (Nat.le_of_ble_eq_true rfl) rfl rfl rfl ?_
        refine TT_goto (tgt := 18) dL_law_1691 rfl ?_
        exact h
      · replace h := h.2 c260
        refine TT_iconst dL_law_1268 ?_
        exact TT_zret dL_law_1269 rfl rfl (Or.inl rfl) h
    by_cases c385 : ((xs (x3).toNat) % 32) = 22
    · replace h := h.2.2.2.2.2.2.2.2.2.2.2.2.2.2.2.2.2.2.2.2.2.2.1 c385
      refine TT_tableIn (x := ((xs (x3).toNat) % 32)) (tgt := 1270) (off := 1237) dL_law_33 o6 (by rw [c385]; decide) (by rw [c385]; decide) (by rw [c385]; rfl) rfl ?_
      refine TT_aload_n dL_law_1270 rfl ?_
      refine TT_sload_n dL_law_1271 rfl ?_
      refine TT_iload_n dL_law_1272 rfl ?_
      refine TT_iconst dL_law_1273 ?_
      refine TT_iadd dL_law_1274 ?_
      obtain ⟨o261, h⟩ := h
      refine TT_saldv (v := (xs (x3 + 1).toNat)) dL_law_1275 rfl hL9 o261 rfl ?_
      refine TT_sload_n dL_law_1276 rfl ?_
      refine TT_iload_n dL_law_1277 rfl ?_
      refine TT_iconst dL_law_1278 ?_
      refine TT_iadd dL_law_1279 ?_
      obtain ⟨o262, h⟩ := h
      refine TT_saldv (v := (xs (x3 + 2).toNat)) dL_law_1280 rfl hL9 o262 rfl ?_
      refine TT_sload_n dL_law_1281 rfl ?_
      refine TT_iload_n dL_law_1282 rfl ?_
      refine TT_iconst dL_law_1283 ?_
      refine TT_iadd dL_law_1284 ?_
      obtain ⟨o263, h⟩ := h
      refine TT_saldv (v := (xs (x3 + 3).toNat)) dL_law_1285 rfl hL9 o263 rfl ?_
      refine TT_sload_n dL_law_1286 rfl ?_
      refine TT_iload_n dL_law_1287 rfl ?_
      refine TT_iconst dL_law_1288 ?_
      refine TT_iadd dL_law_1289 ?_
      obtain ⟨o264, h⟩ := h
      refine TT_saldv (v := (xs (x3 + 4).toNat)) dL_law_1290 rfl hL9 o264 rfl ?_
      refine TT_callVI (M' := m_X9_stand) (as := [vI (xs (x3 + 1).toNat), vI (xs (x3 + 2).toNat), vI (xs (x3 + 3).toNat), vI (xs (x3 + 4).toNat)]) (rest := []) dL_law_1291 mo_X9_stand ml_L_113 im_X9_stand se_X9_stand (Nat.le_of_ble_eq_true rfl) (Nat.le_of_ble_eq_true rfl) ⟨rfl, rfl, rfl⟩ rfl rfl (Nat.le_of_ble_eq_true rfl) (by decide) rfl rfl (by decide) h (fun y265 s266 h => ?_)
      refine TT_aload_n dL_law_1294 rfl ?_
      refine TT_sload_n dL_law_1295 rfl ?_
      refine TT_iload_n dL_law_1296 rfl ?_
      refine TT_iconst dL_law_1297 ?_
      refine TT_iadd dL_law_1298 ?_
      refine TT_saldv (v := (xs (x3 + 1).toNat)) dL_law_1299 rfl hL9 o261 rfl ?_
      refine TT_sload_n dL_law_1300 rfl ?_
      refine TT_iload_n dL_law_1301 rfl ?_
      refine TT_iconst dL_law_1302 ?_
      refine TT_iadd dL_law_1303 ?_
      refine TT_saldv (v := (xs (x3 + 2).toNat)) dL_law_1304 rfl hL9 o262 rfl ?_
      refine TT_sload_n dL_law_1305 rfl ?_
      refine TT_iload_n dL_law_1306 rfl ?_
      refine TT_iconst dL_law_1307 ?_
      refine TT_iadd dL_law_1308 ?_
      refine TT_saldv (v := (xs (x3 + 3).toNat)) dL_law_1309 rfl hL9 o263 rfl ?_
      refine TT_sload_n dL_law_1310 rfl ?_
      refine TT_iload_n dL_law_1311 rfl ?_
      refine TT_iconst dL_law_1312 ?_
      refine TT_iadd dL_law_1313 ?_
      refine TT_saldv (v := (xs (x3 + 4).toNat)) dL_law_1314 rfl hL9 o264 rfl ?_
      refine TT_callVI (M' := m_X10_stand_) (as := [vI (xs (x3 + 1).toNat), vI (xs (x3 + 2).toNat), vI (xs (x3 + 3).toNat), vI (xs (x3 + 4).toNat)]) (rest := [vI y265]) dL_law_1315 mo_X10_stand_ ml_L_116 im_X10_stand_ se_X10_stand_ (Nat.le_of_ble_eq_true rfl) (Nat.le_of_ble_eq_true rfl) ⟨rfl, rfl, rfl⟩ rfl rfl (Nat.le_of_ble_eq_true rfl) (by decide) rfl rfl (by decide) h (fun y267 s268 h => ?_)
      obtain ⟨o269, h⟩ := h
      obtain ⟨o270, h⟩ := h
      refine TT_icmp_eq (tgt := 1688) dL_law_1318 rfl o269 o270 (fun c271 => ?_) (fun c271 => ?_)
      · replace h := h.1 c271
        refine TT_iinc dL_law_1688 (Nat.le_of_ble_eq_true rfl) rfl rfl rfl ?_
        refine TT_goto (tgt := 18) dL_law_1691 rfl ?_
        exact h
      · replace h := h.2 c271
        refine TT_iconst dL_law_1321 ?_
        exact TT_zret dL_law_1322 rfl rfl (Or.inl rfl) h
    by_cases c386 : ((xs (x3).toNat) % 32) = 23
    · replace h := h.2.2.2.2.2.2.2.2.2.2.2.2.2.2.2.2.2.2.2.2.2.2.2.1 c386
      refine TT_tableIn (x := ((xs (x3).toNat) % 32)) (tgt := 1323) (off := 1290) dL_law_33 o6 (by rw [c386]; decide) (by rw [c386]; decide) (by rw [c386]; rfl) rfl ?_
      refine TT_aload_n dL_law_1323 rfl ?_
      refine TT_sload_n dL_law_1324 rfl ?_
      refine TT_iload_n dL_law_1325 rfl ?_
      refine TT_iconst dL_law_1326 ?_
      refine TT_iadd dL_law_1327 ?_
      obtain ⟨o272, h⟩ := h
      refine TT_saldv (v := (xs (x3 + 1).toNat)) dL_law_1328 rfl hL9 o272 rfl ?_
      refine TT_sload_n dL_law_1329 rfl ?_
      refine TT_iload_n dL_law_1330 rfl ?_
      refine TT_iconst dL_law_1331 ?_
      refine TT_iadd dL_law_1332 ?_
      obtain ⟨o273, h⟩ := h
      refine TT_saldv (v := (xs (x3 + 2).toNat)) dL_law_1333 rfl hL9 o273 rfl ?_
      refine TT_callVI (M' := m_X9_changes) (as := [vI (xs (x3 + 1).toNat), vI (xs (x3 + 2).toNat)]) (rest := []) dL_law_1334 mo_X9_changes ml_L_117 im_X9_changes se_X9_changes (Nat.le_of_ble_eq_true rfl) (Nat.le_of_ble_eq_true rfl) ⟨rfl, rfl, rfl⟩ rfl rfl (Nat.le_of_ble_eq_true rfl) (by decide) rfl rfl (by decide) h (fun y274 s275 h => ?_)
      refine TT_aload_n dL_law_1337 rfl ?_
      refine TT_sload_n dL_law_1338 rfl ?_
      refine TT_iload_n dL_law_1339 rfl ?_
      refine TT_iconst dL_law_1340 ?_
      refine TT_iadd dL_law_1341 ?_
      refine TT_saldv (v := (xs (x3 + 1).toNat)) dL_law_1342 rfl hL9 o272 rfl ?_
      refine TT_sload_n dL_law_1343 rfl ?_
      refine TT_iload_n dL_law_1344 rfl ?_
      refine TT_iconst dL_law_1345 ?_
      refine TT_iadd dL_law_1346 ?_
      refine TT_saldv (v := (xs (x3 + 2).toNat)) dL_law_1347 rfl hL9 o273 rfl ?_
      refine TT_callVI (M' := m_X10_changes) (as := [vI (xs (x3 + 1).toNat), vI (xs (x3 + 2).toNat)]) (rest := [vI y274]) dL_law_1348 mo_X10_changes ml_L_120 im_X10_changes se_X10_changes (Nat.le_of_ble_eq_true rfl) (Nat.le_of_ble_eq_true rfl) ⟨rfl, rfl, rfl⟩ rfl rfl (Nat.le_of_ble_eq_true rfl) (by decide) rfl rfl (by decide) h (fun y276 s277 h => ?_)
      obtain ⟨o278, h⟩ := h
      obtain ⟨o279, h⟩ := h
      refine TT_icmp_eq (tgt := 1688) dL_law_1351 rfl o278 o279 (fun c280 => ?_) (fun c280 => ?_)
      · replace h := h.1 c280
        refine TT_iinc dL_law_1688 (Nat.le_of_ble_eq_true rfl) rfl rfl rfl ?_
        refine TT_goto (tgt := 18) dL_law_1691 rfl ?_
        exact h
      · replace h := h.2 c280
        refine TT_iconst dL_law_1354 ?_
        exact TT_zret dL_law_1355 rfl rfl (Or.inl rfl) h
    by_cases c387 : ((xs (x3).toNat) % 32) = 24
    · replace h := h.2.2.2.2.2.2.2.2.2.2.2.2.2.2.2.2.2.2.2.2.2.2.2.2.1 c387
      refine TT_tableIn (x := ((xs (x3).toNat) % 32)) (tgt := 1356) (off := 1323) dL_law_33 o6 (by rw [c387]; decide) (by rw [c387]; decide) (by rw [c387]; rfl) rfl ?_
      refine TT_aload_n dL_law_1356 rfl ?_
      refine TT_sload_n dL_law_1357 rfl ?_
      refine TT_iload_n dL_law_1358 rfl ?_
      refine TT_iconst dL_law_1359 ?_
      refine TT_iadd dL_law_1360 ?_
      obtain ⟨o281, h⟩ := h
      refine TT_saldv (v := (xs (x3 + 1).toNat)) dL_law_1361 rfl hL9 o281 rfl ?_
      refine TT_sload_n dL_law_1362 rfl ?_
      refine TT_iload_n dL_law_1363 rfl ?_
      refine TT_iconst dL_law_1364 ?_
      refine TT_iadd dL_law_1365 ?_
      obtain ⟨o282, h⟩ := h
      refine TT_saldv (v := (xs (x3 + 2).toNat)) dL_law_1366 rfl hL9 o282 rfl ?_
      refine TT_sload_n dL_law_1367 rfl ?_
      refine TT_iload_n dL_law_1368 rfl ?_
      refine TT_iconst dL_law_1369 ?_
      refine TT_iadd dL_law_1370 ?_
      obtain ⟨o283, h⟩ := h
      refine TT_saldv (v := (xs (x3 + 3).toNat)) dL_law_1371 rfl hL9 o283 rfl ?_
      refine TT_callVI (M' := m_X9_change) (as := [vI (xs (x3 + 1).toNat), vI (xs (x3 + 2).toNat), vI (xs (x3 + 3).toNat)]) (rest := []) dL_law_1372 mo_X9_change ml_L_121 im_X9_change se_X9_change (Nat.le_of_ble_eq_true rfl) (Nat.le_of_ble_eq_true rfl) ⟨rfl, rfl, rfl⟩ rfl rfl (Nat.le_of_ble_eq_true rfl) (by decide) rfl rfl (by decide) h (fun y284 s285 h => ?_)
      refine TT_aload_n dL_law_1375 rfl ?_
      refine TT_sload_n dL_law_1376 rfl ?_
      refine TT_iload_n dL_law_1377 rfl ?_
      refine TT_iconst dL_law_1378 ?_
      refine TT_iadd dL_law_1379 ?_
      refine TT_saldv (v := (xs (x3 + 1).toNat)) dL_law_1380 rfl hL9 o281 rfl ?_
      refine TT_sload_n dL_law_1381 rfl ?_
      refine TT_iload_n dL_law_1382 rfl ?_
      refine TT_iconst dL_law_1383 ?_
      refine TT_iadd dL_law_1384 ?_
      refine TT_saldv (v := (xs (x3 + 2).toNat)) dL_law_1385 rfl hL9 o282 rfl ?_
      refine TT_sload_n dL_law_1386 rfl ?_
      refine TT_iload_n dL_law_1387 rfl ?_
      refine TT_iconst dL_law_1388 ?_
      refine TT_iadd dL_law_1389 ?_
      refine TT_saldv (v := (xs (x3 + 3).toNat)) dL_law_1390 rfl hL9 o283 rfl ?_
      refine TT_callVI (M' := m_X10_change) (as := [vI (xs (x3 + 1).toNat), vI (xs (x3 + 2).toNat), vI (xs (x3 + 3).toNat)]) (rest := [vI y284]) dL_law_1391 mo_X10_change ml_L_124 im_X10_change se_X10_change (Nat.le_of_ble_eq_true rfl) (Nat.le_of_ble_eq_true rfl) ⟨rfl, rfl, rfl⟩ rfl rfl (Nat.le_of_ble_eq_true rfl) (by decide) rfl rfl (by decide) h (fun y286 s287 h => ?_)
      obtain ⟨o288, h⟩ := h
      obtain ⟨o289, h⟩ := h
      refine TT_icmp_eq (tgt := 1688) dL_law_1394 rfl o288 o289 (fun c290 => ?_) (fun c290 => ?_)
      · replace h := h.1 c290
        refine TT_iinc dL_law_1688 (Nat.le_of_ble_eq_true rfl) rfl rfl rfl ?_
        refine TT_goto (tgt := 18) dL_law_1691 rfl ?_
        exact h
      · replace h := h.2 c290
        refine TT_iconst dL_law_1397 ?_
        exact TT_zret dL_law_1398 rfl rfl (Or.inl rfl) h
    by_cases c388 : ((xs (x3).toNat) % 32) = 25
    · replace h := h.2.2.2.2.2.2.2.2.2.2.2.2.2.2.2.2.2.2.2.2.2.2.2.2.2.1 c388
      refine TT_tableIn (x := ((xs (x3).toNat) % 32)) (tgt := 1399) (off := 1366) dL_law_33 o6 (by rw [c388]; decide) (by rw [c388]; decide) (by rw [c388]; rfl) rfl ?_
      refine TT_aload_n dL_law_1399 rfl ?_
      refine TT_sload_n dL_law_1400 rfl ?_
      refine TT_iload_n dL_law_1401 rfl ?_
      refine TT_iconst dL_law_1402 ?_
      refine TT_iadd dL_law_1403 ?_
      obtain ⟨o291, h⟩ := h
      refine TT_saldv (v := (xs (x3 + 1).toNat)) dL_law_1404 rfl hL9 o291 rfl ?_
      refine TT_sload_n dL_law_1405 rfl ?_
      refine TT_iload_n dL_law_1406 rfl ?_
      refine TT_iconst dL_law_1407 ?_
      refine TT_iadd dL_law_1408 ?_
      obtain ⟨o292, h⟩ := h
      refine TT_saldv (v := (xs (x3 + 2).toNat)) dL_law_1409 rfl hL9 o292 rfl ?_
      refine TT_callVI (M' := m_X9_still) (as := [vI (xs (x3 + 1).toNat), vI (xs (x3 + 2).toNat)]) (rest := []) dL_law_1410 mo_X9_still ml_L_125 im_X9_still se_X9_still (Nat.le_of_ble_eq_true rfl) (Nat.le_of_ble_eq_true rfl) ⟨rfl, rfl, rfl⟩ rfl rfl (Nat.le_of_ble_eq_true rfl) (by decide) rfl rfl (by decide) h (fun y293 s294 h => ?_)
      refine TT_aload_n dL_law_1413 rfl ?_
      refine TT_sload_n dL_law_1414 rfl ?_
      refine TT_iload_n dL_law_1415 rfl ?_
      refine TT_iconst dL_law_1416 ?_
      refine TT_iadd dL_law_1417 ?_
      refine TT_saldv (v := (xs (x3 + 1).toNat)) dL_law_1418 rfl hL9 o291 rfl ?_
      refine TT_sload_n dL_law_1419 rfl ?_
      refine TT_iload_n dL_law_1420 rfl ?_
      refine TT_iconst dL_law_1421 ?_
      refine TT_iadd dL_law_1422 ?_
      refine TT_saldv (v := (xs (x3 + 2).toNat)) dL_law_1423 rfl hL9 o292 rfl ?_
      refine TT_callVI (M' := m_X10_still) (as := [vI (xs (x3 + 1).toNat), vI (xs (x3 + 2).toNat)]) (rest := [vI y293]) dL_law_1424 mo_X10_still ml_L_128 im_X10_still se_X10_still (Nat.le_of_ble_eq_true rfl) (Nat.le_of_ble_eq_true rfl) ⟨rfl, rfl, rfl⟩ rfl rfl (Nat.le_of_ble_eq_true rfl) (by decide) rfl rfl (by decide) h (fun y295 s296 h => ?_)
      obtain ⟨o297, h⟩ := h
      obtain ⟨o298, h⟩ := h
      refine TT_icmp_eq (tgt := 1688) dL_law_1427 rfl o297 o298 (fun c299 => ?_) (fun c299 => ?_)
      · replace h := h.1 c299
        refine TT_iinc dL_law_1688 (Nat.le_of_ble_eq_true rfl) rfl rfl rfl ?_
        refine TT_goto (tgt := 18) dL_law_1691 rfl ?_
        exact h
      · replace h := h.2 c299
        refine TT_iconst dL_law_1430 ?_
        exact TT_zret dL_law_1431 rfl rfl (Or.inl rfl) h
    by_cases c389 : ((xs (x3).toNat) % 32) = 26
    · replace h := h.2.2.2.2.2.2.2.2.2.2.2.2.2.2.2.2.2.2.2.2.2.2.2.2.2.2.1 c389
      refine TT_tableIn (x := ((xs (x3).toNat) % 32)) (tgt := 1432) (off := 1399) dL_law_33 o6 (by rw [c389]; decide) (by rw [c389]; decide) (by rw [c389]; rfl) rfl ?_
      refine TT_aload_n dL_law_1432 rfl ?_
      refine TT_sload_n dL_law_1433 rfl ?_
      refine TT_iload_n dL_law_1434 rfl ?_
      refine TT_iconst dL_law_1435 ?_
      refine TT_iadd dL_law_1436 ?_
      obtain ⟨o300, h⟩ := h
      refine TT_saldv (v := (xs (x3 + 1).toNat)) dL_law_1437 rfl hL9 o300 rfl ?_
      refine TT_callVI (M' := m_X9_load) (as := [vI (xs (x3 + 1).toNat)]) (rest := []) dL_law_1438 mo_X9_load ml_L_129 im_X9_load se_X9_load (Nat.le_of_ble_eq_true rfl) (Nat.le_of_ble_eq_true rfl) ⟨rfl, rfl, rfl⟩ rfl rfl (Nat.le_of_ble_eq_true rfl) (by decide) rfl rfl (by decide) h (fun y301 s302 h => ?_)
      refine TT_aload_n dL_law_1441 rfl ?_
      refine TT_sload_n dL_law_1442 rfl ?_
      refine TT_iload_n dL_law_1443 rfl ?_
      refine TT_iconst dL_law_1444 ?_
      refine TT_iadd dL_law_1445 ?_
      refine TT_saldv (v := (xs (x3 + 1).toNat)) dL_law_1446 rfl hL9 o300 rfl ?_
      refine TT_callVI (M' := m_X10_load) (as := [vI (xs (x3 + 1).toNat)]) (rest := [vI y301]) dL_law_1447 mo_X10_load ml_L_132 im_X10_load se_X10_load (Nat.le_of_ble_eq_true rfl) (Nat.le_of_ble_eq_true rfl) ⟨rfl, rfl, rfl⟩ rfl rfl (Nat.le_of_ble_eq_true rfl) (by decide) rfl rfl (by decide) h (fun y303 s304 h => ?_)
      obtain ⟨o305, h⟩ := h
      obtain ⟨o306, h⟩ := h
      refine TT_icmp_eq (tgt := 1688) dL_law_1450 rfl o305 o306 (fun c307 => ?_) (fun c307 => ?_)
      · replace h := h.1 c307
        refine TT_iinc dL_law_1688 (Nat.le_of_ble_eq_true rfl) rfl rfl rfl ?_
        refine TT_goto (tgt := 18) dL_law_1691 rfl ?_
        exact h
      · replace h := h.2 c307
        refine TT_iconst dL_law_1453 ?_
        exact TT_zret dL_law_1454 rfl rfl (Or.inl rfl) h
    by_cases c390 : ((xs (x3).toNat) % 32) = 27
    · replace h := h.2.2.2.2.2.2.2.2.2.2.2.2.2.2.2.2.2.2.2.2.2.2.2.2.2.2.2.1 c390
      refine TT_tableIn (x := ((xs (x3).toNat) % 32)) (tgt := 1455) (off := 1422) dL_law_33 o6 (by rw [c390]; decide) (by rw [c390]; decide) (by rw [c390]; rfl) rfl ?_
      refine TT_aload_n dL_law_1455 rfl ?_
      refine TT_sload_n dL_law_1456 rfl ?_
      refine TT_iload_n dL_law_1457 rfl ?_
      refine TT_iconst dL_law_1458 ?_
      refine TT_iadd dL_law_1459 ?_
      obtain ⟨o308, h⟩ := h
      refine TT_saldv (v := (xs (x3 + 1).toNat)) dL_law_1460 rfl hL9 o308 rfl ?_
      refine TT_callVI (M' := m_X9_share) (as := [vI (xs (x3 + 1).toNat)]) (rest := []) dL_law_1461 mo_X9_share ml_L_133 im_X9_share se_X9_share (Nat.le_of_ble_eq_true rfl) (Nat.le_of_ble_eq_true rfl) ⟨rfl, rfl, rfl⟩ rfl rfl (Nat.le_of_ble_eq_true rfl) (by decide) rfl rfl (by decide) h (fun y309 s310 h => ?_)
      refine TT_aload_n dL_law_1464 rfl ?_
      refine TT_sload_n dL_law_1465 rfl ?_
      refine TT_iload_n dL_law_1466 rfl ?_
      refine TT_iconst dL_law_1467 ?_
      refine TT_iadd dL_law_1468 ?_
      refine TT_saldv (v := (xs (x3 + 1).toNat)) dL_law_1469 rfl hL9 o308 rfl ?_
      refine TT_callVI (M' := m_X10_share) (as := [vI (xs (x3 + 1).toNat)]) (rest := [vI y309]) dL_law_1470 mo_X10_share ml_L_136 im_X10_share se_X10_share (Nat.le_of_ble_eq_true rfl) (Nat.le_of_ble_eq_true rfl) ⟨rfl, rfl, rfl⟩ rfl rfl (Nat.le_of_ble_eq_true rfl) (by decide) rfl rfl (by decide) h (fun y311 s312 h => ?_)
      obtain ⟨o313, h⟩ := h
      obtain ⟨o314, h⟩ := h
      refine TT_icmp_eq (tgt := 1688) dL_law_1473 rfl o313 o314 (fun c315 => ?_) (fun c315 => ?_)
      · replace h := h.1 c315
        refine TT_iinc dL_law_1688 (Nat.le_of_ble_eq_true rfl) rfl rfl rfl ?_
        refine TT_goto (tgt := 18) dL_law_1691 rfl ?_
        exact h
      · replace h := h.2 c315
        refine TT_iconst dL_law_1476 ?_
        exact TT_zret dL_law_1477 rfl rfl (Or.inl rfl) h
    by_cases c391 : ((xs (x3).toNat) % 32) = 28
    · replace h := h.2.2.2.2.2.2.2.2.2.2.2.2.2.2.2.2.2.2.2.2.2.2.2.2.2.2.2.2.1 c391
      refine TT_tableIn (x := ((xs (x3).toNat) % 32)) (tgt := 1478) (off := 1445) dL_law_33 o6 (by rw [c391]; decide) (by rw [c391]; decide) (by rw [c391]; rfl) rfl ?_
      refine TT_aload_n dL_law_1478 rfl ?_
      refine TT_sload_n dL_law_1479 rfl ?_
      refine TT_iload_n dL_law_1480 rfl ?_
      refine TT_iconst dL_law_1481 ?_
      refine TT_iadd dL_law_1482 ?_
      obtain ⟨o316, h⟩ := h
      refine TT_saldv (v := (xs (x3 + 1).toNat)) dL_law_1483 rfl hL9 o316 rfl ?_
      refine TT_sload_n dL_law_1484 rfl ?_
      refine TT_iload_n dL_law_1485 rfl ?_
      refine TT_iconst dL_law_1486 ?_
      refine TT_iadd dL_law_1487 ?_
      obtain ⟨o317, h⟩ := h
      refine TT_saldv (v := (xs (x3 + 2).toNat)) dL_law_1488 rfl hL9 o317 rfl ?_
      refine TT_callVI (M' := m_X9_gets) (as := [vI (xs (x3 + 1).toNat), vI (xs (x3 + 2).toNat)]) (rest := []) dL_law_1489 mo_X9_gets ml_L_137 im_X9_gets se_X9_gets (Nat.le_of_ble_eq_true rfl) (Nat.le_of_ble_eq_true rfl) ⟨rfl, rfl, rfl⟩ rfl rfl (Nat.le_of_ble_eq_true rfl) (by decide) rfl rfl (by decide) h (fun y318 s319 h => ?_)
      refine TT_aload_n dL_law_1492 rfl ?_
      refine TT_sload_n dL_law_1493 rfl ?_
      refine TT_iload_n dL_law_1494 rfl ?_
      refine TT_iconst dL_law_1495 ?_
      refine TT_iadd dL_law_1496 ?_
      refine TT_saldv (v := (xs (x3 + 1).toNat)) dL_law_1497 rfl hL9 o316 rfl ?_
      refine TT_sload_n dL_law_1498 rfl ?_
      refine TT_iload_n dL_law_1499 rfl ?_
      refine TT_iconst dL_law_1500 ?_
      refine TT_iadd dL_law_1501 ?_
      refine TT_saldv (v := (xs (x3 + 2).toNat)) dL_law_1502 rfl hL9 o317 rfl ?_
      refine TT_callVI (M' := m_X10_gets) (as := [vI (xs (x3 + 1).toNat), vI (xs (x3 + 2).toNat)]) (rest := [vI y318]) dL_law_1503 mo_X10_gets ml_L_140 im_X10_gets se_X10_gets (Nat.le_of_ble_eq_true rfl) (Nat.le_of_ble_eq_true rfl) ⟨rfl, rfl, rfl⟩ rfl rfl (Nat.le_of_ble_eq_true rfl) (by decide) rfl rfl (by decide) h (fun y320 s321 h => ?_)
      obtain ⟨o322, h⟩ := h
      obtain ⟨o323, h⟩ := h
      refine TT_icmp_eq (tgt := 1688) dL_law_1506 rfl o322 o323 (fun c324 => ?_) (fun c324 => ?_)
      · replace h := h.1 c324
        refine TT_iinc dL_law_1688 (Nat.le_of_ble_eq_true rfl) rfl rfl rfl ?_
        refine TT_goto (tgt := 18) dL_law_1691 rfl ?_
        exact h
      · replace h := h.2 c324
        refine TT_iconst dL_law_1509 ?_
        exact TT_zret dL_law_1510 rfl rfl (Or.inl rfl) h
    by_cases c392 : ((xs (x3).toNat) % 32) = 29
    · replace h := h.2.2.2.2.2.2.2.2.2.2.2.2.2.2.2.2.2.2.2.2.2.2.2.2.2.2.2.2.2.1 c392
      refine TT_tableIn (x := ((xs (x3).toNat) % 32)) (tgt := 1511) (off := 1478) dL_law_33 o6 (by rw [c392]; decide) (by rw [c392]; decide) (by rw [c392]; rfl) rfl ?_
      refine TT_aload_n dL_law_1511 rfl ?_
      refine TT_sload_n dL_law_1512 rfl ?_
      refine TT_iload_n dL_law_1513 rfl ?_
      refine TT_iconst dL_law_1514 ?_
      refine TT_iadd dL_law_1515 ?_
      obtain ⟨o325, h⟩ := h
      refine TT_saldv (v := (xs (x3 + 1).toNat)) dL_law_1516 rfl hL9 o325 rfl ?_
      refine TT_sload_n dL_law_1517 rfl ?_
      refine TT_iload_n dL_law_1518 rfl ?_
      refine TT_iconst dL_law_1519 ?_
      refine TT_iadd dL_law_1520 ?_
      obtain ⟨o326, h⟩ := h
      refine TT_saldv (v := (xs (x3 + 2).toNat)) dL_law_1521 rfl hL9 o326 rfl ?_
      refine TT_sload_n dL_law_1522 rfl ?_
      refine TT_iload_n dL_law_1523 rfl ?_
      refine TT_iconst dL_law_1524 ?_
      refine TT_iadd dL_law_1525 ?_
      obtain ⟨o327, h⟩ := h
      refine TT_saldv (v := (xs (x3 + 3).toNat)) dL_law_1526 rfl hL9 o327 rfl ?_
      refine TT_sload_n dL_law_1527 rfl ?_
      refine TT_iload_n dL_law_1528 rfl ?_
      refine TT_iconst dL_law_1529 ?_
      refine TT_iadd dL_law_1530 ?_
      obtain ⟨o328, h⟩ := h
      refine TT_saldv (v := (xs (x3 + 4).toNat)) dL_law_1531 rfl hL9 o328 rfl ?_
      refine TT_sload_n dL_law_1532 rfl ?_
      refine TT_iload_n dL_law_1533 rfl ?_
      refine TT_iconst dL_law_1534 ?_
      refine TT_iadd dL_law_1535 ?_
      obtain ⟨o329, h⟩ := h
      refine TT_saldv (v := (xs (x3 + 5).toNat)) dL_law_1536 rfl hL9 o329 rfl ?_
      obtain ⟨o330, h⟩ := h
      have j332 : TT (mLaw L xs) 1545 [vS, vR 0, vR 80, vI x3] [vI (if (xs (x3 + 5).toNat) = 0 then 0 else 1 : Int), vI (xs (x3 + 4).toNat), vI (xs (x3 + 3).toNat), vI (xs (x3 + 2).toNat), vI (xs (x3 + 1).toNat), vR 0] σ (PI K) := by
        refine TT_callVI (M' := m_X9_blur) (as := [vI (xs (x3 + 1).toNat), vI (xs (x3 + 2).toNat), vI (xs (x3 + 3).toNat), vI (xs (x3 + 4).toNat), vI (if (xs (x3 + 5).toNat) = 0 then 0 else 1 : Int)]) (rest := []) dL_law_1545 mo_X9_blur ml_L_141 im_X9_blur se_X9_blur (Nat.le_of_ble_eq_true rfl) (Nat.le_of_ble_eq_true rfl) ⟨rfl, rfl, rfl⟩ rfl rfl (Nat.le_of_ble_eq_true rfl) (by decide) rfl rfl (by decide) h (fun y333 s334 h => ?_)
        refine TT_aload_n dL_law_1548 rfl ?_
        refine TT_sload_n dL_law_1549 rfl ?_
        refine TT_iload_n dL_law_1550 rfl ?_
        refine TT_iconst dL_law_1551 ?_
        refine TT_iadd dL_law_1552 ?_
        refine TT_saldv (v := (xs (x3 + 1).toNat)) dL_law_1553 rfl hL9 o325 rfl ?_
        refine TT_sload_n dL_law_1554 rfl ?_
        refine TT_iload_n dL_law_1555 rfl ?_
        refine TT_iconst dL_law_1556 ?_
        refine TT_iadd dL_law_1557 ?_
        refine TT_saldv (v := (xs (x3 + 2).toNat)) dL_law_1558 rfl hL9 o326 rfl ?_
        refine TT_sload_n dL_law_1559 rfl ?_
        refine TT_iload_n dL_law_1560 rfl ?_
        refine TT_iconst dL_law_1561 ?_
        refine TT_iadd dL_law_1562 ?_
        refine TT_saldv (v := (xs (x3 + 3).toNat)) dL_law_1563 rfl hL9 o327 rfl ?_
        refine TT_sload_n dL_law_1564 rfl ?_
        refine TT_iload_n dL_law_1565 rfl ?_
        refine TT_iconst dL_law_1566 ?_
        refine TT_iadd dL_law_1567 ?_
        refine TT_saldv (v := (xs (x3 + 4).toNat)) dL_law_1568 rfl hL9 o328 rfl ?_
        refine TT_sload_n dL_law_1569 rfl ?_
        refine TT_iload_n dL_law_1570 rfl ?_
        refine TT_iconst dL_law_1571 ?_
        refine TT_iadd dL_law_1572 ?_
        refine TT_saldv (v := (xs (x3 + 5).toNat)) dL_law_1573 rfl hL9 o329 rfl ?_
        have j336 : TT (mLaw L xs) 1582 [vS, vR 0, vR 80, vI x3] [vI (if (xs (x3 + 5).toNat) = 0 then 0 else 1 : Int), vI (xs (x3 + 4).toNat), vI (xs (x3 + 3).toNat), vI (xs (x3 + 2).toNat), vI (xs (x3 + 1).toNat), vR 80, vI y333] s334 (PI K) := by
          refine TT_callVI (M' := m_X10_blur) (as := [vI (xs (x3 + 1).toNat), vI (xs (x3 + 2).toNat), vI (xs (x3 + 3).toNat), vI (xs (x3 + 4).toNat), vI (if (xs (x3 + 5).toNat) = 0 then 0 else 1 : Int)]) (rest := [vI y333]) dL_law_1582 mo_X10_blur ml_L_145 im_X10_blur se_X10_blur (Nat.le_of_ble_eq_true rfl) (Nat.le_of_ble_eq_true rfl) ⟨rfl, rfl, rfl⟩ rfl rfl (Nat.le_of_ble_eq_true rfl) (by decide) rfl rfl (by decide) h (fun y337 s338 h => ?_)
          obtain ⟨o339, h⟩ := h
          obtain ⟨o340, h⟩ := h
          refine TT_icmp_eq (tgt := 1688) dL_law_1585 rfl o339 o340 (fun c341 => ?_) (fun c341 => ?_)
          · replace h := h.1 c341
            refine TT_iinc dL_law_1688 (Nat.le_of_ble_eq_true rfl) rfl rfl rfl ?_
            refine TT_goto (tgt := 18) dL_law_1691 rfl ?_
            exact h
          · replace h := h.2 c341
            refine TT_iconst dL_law_1588 ?_
            exact TT_zret dL_law_1589 rfl rfl (Or.inl rfl) h
        refine TT_if_eq (tgt := 1581) dL_law_1574 rfl o330 (fun c335 => ?_) (fun c335 => ?_)
        · refine TT_iconst dL_law_1581 ?_
          exact TT.cast j336 (by first | rfl | (simp only [if_pos c335] <;> rfl)) (by first | rfl | (simp only [if_pos c335] <;> rfl))
        · refine TT_iconst dL_law_1577 ?_
          refine TT_goto (tgt := 1582) dL_law_1578 rfl ?_
          exact TT.cast j336 (by first | rfl | (simp only [if_neg c335] <;> rfl)) (by first | rfl | (simp only [if_neg c335] <;> rfl))
      refine TT_if_eq (tgt := 1544) dL_law_1537 rfl o330 (fun c331 => ?_) (fun c331 => ?_)
      · refine TT_iconst dL_law_1544 ?_
        exact TT.cast j332 (by first | rfl | (simp only [if_pos c331] <;> rfl)) (by first | rfl | (simp only [if_pos c331] <;> rfl))
      · refine TT_iconst dL_law_1540 ?_
        refine TT_goto (tgt := 1545) dL_law_1541 rfl ?_
        exact TT.cast j332 (by first | rfl | (simp only [if_neg c331] <;> rfl)) (by first | rfl | (simp only [if_neg c331] <;> rfl))
    by_cases c393 : ((xs (x3).toNat) % 32) = 30
    · replace h := h.2.2.2.2.2.2.2.2.2.2.2.2.2.2.2.2.2.2.2.2.2.2.2.2.2.2.2.2.2.2.1 c393
      refine TT_tableIn (x := ((xs (x3).toNat) % 32)) (tgt := 1590) (off := 1557) dL_law_33 o6 (by rw [c393]; decide) (by rw [c393]; decide) (by rw [c393]; rfl) rfl ?_
      refine TT_aload_n dL_law_1590 rfl ?_
      refine TT_sload_n dL_law_1591 rfl ?_
      refine TT_iload_n dL_law_1592 rfl ?_
      refine TT_iconst dL_law_1593 ?_
      refine TT_iadd dL_law_1594 ?_
      obtain ⟨o342, h⟩ := h
      refine TT_saldv (v := (xs (x3 + 1).toNat)) dL_law_1595 rfl hL9 o342 rfl ?_
      refine TT_sload_n dL_law_1596 rfl ?_
      refine TT_iload_n dL_law_1597 rfl ?_
      refine TT_iconst dL_law_1598 ?_
      refine TT_iadd dL_law_1599 ?_
      obtain ⟨o343, h⟩ := h
      refine TT_saldv (v := (xs (x3 + 2).toNat)) dL_law_1600 rfl hL9 o343 rfl ?_
      refine TT_sload_n dL_law_1601 rfl ?_
      refine TT_iload_n dL_law_1602 rfl ?_
      refine TT_iconst dL_law_1603 ?_
      refine TT_iadd dL_law_1604 ?_
      obtain ⟨o344, h⟩ := h
      refine TT_saldv (v := (xs (x3 + 3).toNat)) dL_law_1605 rfl hL9 o344 rfl ?_
      refine TT_sload_n dL_law_1606 rfl ?_
      refine TT_iload_n dL_law_1607 rfl ?_
      refine TT_iconst dL_law_1608 ?_
      refine TT_iadd dL_law_1609 ?_
      obtain ⟨o345, h⟩ := h
      refine TT_saldv (v := (xs (x3 + 4).toNat)) dL_law_1610 rfl hL9 o345 rfl ?_
      refine TT_sload_n dL_law_1611 rfl ?_
      refine TT_iload_n dL_law_1612 rfl ?_
      refine TT_iconst dL_law_1613 ?_
      refine TT_iadd dL_law_1614 ?_
      obtain ⟨o346, h⟩ := h
      refine TT_saldv (v := (xs (x3 + 5).toNat)) dL_law_1615 rfl hL9 o346 rfl ?_
      refine TT_sload_n dL_law_1616 rfl ?_
      refine TT_iload_n dL_law_1617 rfl ?_
      refine TT_bipush dL_law_1618 (by decide) ?_
      refine TT_iadd dL_law_1620 ?_
      obtain ⟨o347, h⟩ := h
      refine TT_saldv (v := (xs (x3 + 6).toNat)) dL_law_1621 rfl hL9 o347 rfl ?_
      refine TT_callVI (M' := m_X9_together) (as := [vI (xs (x3 + 1).toNat), vI (xs (x3 + 2).toNat), vI (xs (x3 + 3).toNat), vI (xs (x3 + 4).toNat), vI (xs (x3 + 5).toNat), vI (xs (x3 + 6).toNat)]) (rest := []) dL_law_1622 mo_X9_together ml_L_146 im_X9_together se_X9_together (Nat.le_of_ble_eq_true rfl) (Nat.le_of_ble_eq_true rfl) ⟨rfl, rfl, rfl⟩ rfl rfl (Nat.le_of_ble_eq_true rfl) (by decide) rfl rfl (by decide) h (fun y348 s349 h => ?_)
      refine TT_aload_n dL_law_1625 rfl ?_
      refine TT_sload_n dL_law_1626 rfl ?_
      refine TT_iload_n dL_law_1627 rfl ?_
      refine TT_iconst dL_law_1628 ?_
      refine TT_iadd dL_law_1629 ?_
      refine TT_saldv (v := (xs (x3 + 1).toNat)) dL_law_1630 rfl hL9 o342 rfl ?_
      refine TT_sload_n dL_law_1631 rfl ?_
      refine TT_iload_n dL_law_1632 rfl ?_
      refine TT_iconst dL_law_1633 ?_
      refine TT_iadd dL_law_1634 ?_
      refine TT_saldv (v := (xs (x3 + 2).toNat)) dL_law_1635 rfl hL9 o343 rfl ?_
      refine TT_sload_n dL_law_1636 rfl ?_
      refine TT_iload_n dL_law_1637 rfl ?_
      refine TT_iconst dL_law_1638 ?_
      refine TT_iadd dL_law_1639 ?_
      refine TT_saldv (v := (xs (x3 + 3).toNat)) dL_law_1640 rfl hL9 o344 rfl ?_
      refine TT_sload_n dL_law_1641 rfl ?_
      refine TT_iload_n dL_law_1642 rfl ?_
      refine TT_iconst dL_law_1643 ?_
      refine TT_iadd dL_law_1644 ?_
      refine TT_saldv (v := (xs (x3 + 4).toNat)) dL_law_1645 rfl hL9 o345 rfl ?_
      refine TT_sload_n dL_law_1646 rfl ?_
      refine TT_iload_n dL_law_1647 rfl ?_
      refine TT_iconst dL_law_1648 ?_
      refine TT_iadd dL_law_1649 ?_
      refine TT_saldv (v := (xs (x3 + 5).toNat)) dL_law_1650 rfl hL9 o346 rfl ?_
      refine TT_sload_n dL_law_1651 rfl ?_
      refine TT_iload_n dL_law_1652 rfl ?_
      refine TT_bipush dL_law_1653 (by decide) ?_
      refine TT_iadd dL_law_1655 ?_
      refine TT_saldv (v := (xs (x3 + 6).toNat)) dL_law_1656 rfl hL9 o347 rfl ?_
      refine TT_callVI (M' := m_X10_together) (as := [vI (xs (x3 + 1).toNat), vI (xs (x3 + 2).toNat), vI (xs (x3 + 3).toNat), vI (xs (x3 + 4).toNat), vI (xs (x3 + 5).toNat), vI (xs (x3 + 6).toNat)]) (rest := [vI y348]) dL_law_1657 mo_X10_together ml_L_149 im_X10_together se_X10_together (Nat.le_of_ble_eq_true rfl) (Nat.le_of_ble_eq_true rfl) ⟨rfl, rfl, rfl⟩ rfl rfl (Nat.le_of_ble_eq_true rfl) (by decide) rfl rfl (by decide) h (fun y350 s351 h => ?_)
      obtain ⟨o352, h⟩ := h
      obtain ⟨o353, h⟩ := h
      refine TT_icmp_eq (tgt := 1688) dL_law_1660 rfl o352 o353 (fun c354 => ?_) (fun c354 => ?_)
      · replace h := h.1 c354
        refine TT_iinc dL_law_1688 (Nat.le_of_ble_eq_true rfl) rfl rfl rfl ?_
        refine TT_goto (tgt := 18) dL_law_1691 rfl ?_
        exact h
      · replace h := h.2 c354
        refine TT_iconst dL_law_1663 ?_
        exact TT_zret dL_law_1664 rfl rfl (Or.inl rfl) h
    by_cases c394 : ((xs (x3).toNat) % 32) = 31
    · replace h := h.2.2.2.2.2.2.2.2.2.2.2.2.2.2.2.2.2.2.2.2.2.2.2.2.2.2.2.2.2.2.2.1 c394
      refine TT_tableIn (x := ((xs (x3).toNat) % 32)) (tgt := 1665) (off := 1632) dL_law_33 o6 (by rw [c394]; decide) (by rw [c394]; decide) (by rw [c394]; rfl) rfl ?_
      refine TT_aload_n dL_law_1665 rfl ?_
      refine TT_sload_n dL_law_1666 rfl ?_
      refine TT_iload_n dL_law_1667 rfl ?_
      refine TT_iconst dL_law_1668 ?_
      refine TT_iadd dL_law_1669 ?_
      obtain ⟨o355, h⟩ := h
      refine TT_saldv (v := (xs (x3 + 1).toNat)) dL_law_1670 rfl hL9 o355 rfl ?_
      refine TT_callVI (M' := m_X9_count) (as := [vI (xs (x3 + 1).toNat)]) (rest := []) dL_law_1671 mo_X9_count ml_L_150 im_X9_count se_X9_count (Nat.le_of_ble_eq_true rfl) (Nat.le_of_ble_eq_true rfl) ⟨rfl, rfl, rfl⟩ rfl rfl (Nat.le_of_ble_eq_true rfl) (by decide) rfl rfl (by decide) h (fun y356 s357 h => ?_)
      refine TT_aload_n dL_law_1674 rfl ?_
      refine TT_sload_n dL_law_1675 rfl ?_
      refine TT_iload_n dL_law_1676 rfl ?_
      refine TT_iconst dL_law_1677 ?_
      refine TT_iadd dL_law_1678 ?_
      refine TT_saldv (v := (xs (x3 + 1).toNat)) dL_law_1679 rfl hL9 o355 rfl ?_
      refine TT_callVI (M' := m_X10_count) (as := [vI (xs (x3 + 1).toNat)]) (rest := [vI y356]) dL_law_1680 mo_X10_count ml_L_153 im_X10_count se_X10_count (Nat.le_of_ble_eq_true rfl) (Nat.le_of_ble_eq_true rfl) ⟨rfl, rfl, rfl⟩ rfl rfl (Nat.le_of_ble_eq_true rfl) (by decide) rfl rfl (by decide) h (fun y358 s359 h => ?_)
      obtain ⟨o360, h⟩ := h
      obtain ⟨o361, h⟩ := h
      refine TT_icmp_eq (tgt := 1688) dL_law_1683 rfl o360 o361 (fun c362 => ?_) (fun c362 => ?_)
      · replace h := h.1 c362
        refine TT_iinc dL_law_1688 (Nat.le_of_ble_eq_true rfl) rfl rfl rfl ?_
        refine TT_goto (tgt := 18) dL_law_1691 rfl ?_
        exact h
      · replace h := h.2 c362
        refine TT_iconst dL_law_1686 ?_
        exact TT_zret dL_law_1687 rfl rfl (Or.inl rfl) h
    have c395 : ((xs (x3).toNat) % 32) < 0 ∨ 31 < ((xs (x3).toNat) % 32) := by omega
    replace h := h.2.2.2.2.2.2.2.2.2.2.2.2.2.2.2.2.2.2.2.2.2.2.2.2.2.2.2.2.2.2.2.2 c395
    refine TT_tableOut (x := ((xs (x3).toNat) % 32)) (tgt := 1688) dL_law_33 o6 c395 rfl ?_
    refine TT_iinc dL_law_1688 (Nat.le_of_ble_eq_true rfl) rfl rfl rfl ?_
    refine TT_goto (tgt := 18) dL_law_1691 rfl ?_
    exact h
