section
variable {toX soX coX ouX kyX moX diX rrX rwX : Int32} {ceX sceX fvX ovX rsX : Nat → Int64} {rcX unX rqX taX acX srcX sunX srqX staX sacX stX cfX cpX chX csX okX ocX koX kfX cbX mkX rtX : Nat → Int32} {N : Nat → Nat} {D : Nat → Nat → Int64} {U R : Nat → Bool} {T A : Nat → Nat} {post : Int32 → Prop}
theorem xm_out (v : Int32) (h1 : (∀ j, j < 3 → v ≠ nI j) → post 1) (h0 : ∀ j, j < 3 → v = nI j → post 0) : wpX_isOutside post v := by
  refine br_c (fun hn => h1 (fun j hj e => ?_)) (fun hp => ?_)
  · rw [e] at hn
    exact nI_pos (by omega) hn
  · obtain ⟨j, hj, rfl⟩ := nI_of hp
    refine pk_le j 2 (fun h => h0 j (by omega) rfl) (fun h => h1 (fun q hq e => ?_))
    rw [nI_eq hj (by omega)] at e
    omega
theorem xm_rowWith (hC : db_xc N D ceX rcX) {c : Nat} (hc : c < 9) {v : Int64} (h1 : ∀ r, r < N (c / 3) → D c r = v → (∀ q, q < r → D c q ≠ v) → post (nI (16 * (c / 3) + r))) (h0 : (∀ r, r < N (c / 3) → D c r ≠ v) → post (-1)) : wpX_rowWith post (toX, soX, coX, ouX, kyX, moX, diX, rrX, rwX, ceX, rcX, unX, rqX, taX, acX, sceX, srcX, sunX, srqX, staX, sacX, stX, cfX, cpX, chX, csX, okX, ocX, koX, kfX, cbX, mkX, fvX, ovX, rsX, rtX) (nI c) v := by
  have ht : c / 3 < 3 := by omega
  obtain ⟨hn, hN⟩ := hC.1 (c / 3) ht
  refine ⟨nz_3ne, nm_r (nz_d3 (by omega)) ⟨vp_in_nI ht (by decide), nm_r (e' := nI (N (c / 3))) (by rw [nI_clamp (by omega)]; exact hn) ?_⟩⟩
  refine loop_0 (fun n i (_ : Unit) => wX_rowWith_17 post (nI c) v (nI (c / 3)) (nI (N (c / 3))) toX soX coX ouX kyX moX diX rrX rwX ceX rcX unX rqX taX acX sceX srcX sunX srqX staX sacX stX cfX cpX chX csX okX ocX koX kfX cbX mkX fvX ovX rsX rtX n (nI i)) (fun i _ => ∀ q, q < i → D c q ≠ v) (N (c / 3)) () (fun q hq => absurd hq (Nat.not_lt_zero q)) ?_ ?_
  · intro n _ hI
    exact br_t (nI_le (Nat.le_refl _) (by omega)) (h0 hI)
  · intro n i _ hi hI hk
    have e : ceX (16 * nI c + nI i).toNatClampNeg = D c i := by rw [nz_16, nI_clamp (by omega)]; exact hC.2 c i hc hi
    refine br_f (nI_ge hi (by omega)) ⟨by rw [nz_16]; exact vp_in_nI (by omega) (by decide), ?_⟩
    by_cases hv : D c i = v
    · refine br_t (e.trans hv) ?_
      rw [nz_16]
      exact h1 i hi hv hI
    · exact br_f (fun z => hv (e.symm.trans z)) (nm_r (nI_1 i) (hk () (lt_s hI hv)))
theorem xm_hasNull (hC : db_xc N D ceX rcX) {c : Nat} (hc : c < 9) (h1 : ¬ fi_r N D c → post 1) (h0 : fi_r N D c → post 0) : wpX_hasNull post (toX, soX, coX, ouX, kyX, moX, diX, rrX, rwX, ceX, rcX, unX, rqX, taX, acX, sceX, srcX, sunX, srqX, staX, sacX, stX, cfX, cpX, chX, csX, okX, ocX, koX, kfX, cbX, mkX, fvX, ovX, rsX, rtX) (nI c) := by
  refine xm_rowWith hC hc (fun r hr e _ => ?_) (fun h => ?_)
  · exact br_f (nz_m1 (by have := (hC.1 (c / 3) (by omega)).2; omega)) (h1 (fun z => z r hr e))
  · exact br_t rfl (h0 h)
theorem xm_hasRepeated (hC : db_xc N D ceX rcX) {c : Nat} (hc : c < 9) (h1 : ¬ fi_u N D c → post 1) (h0 : fi_u N D c → post 0) : wpX_hasRepeatedInt post (toX, soX, coX, ouX, kyX, moX, diX, rrX, rwX, ceX, rcX, unX, rqX, taX, acX, sceX, srcX, sunX, srqX, staX, sacX, stX, cfX, cpX, chX, csX, okX, ocX, koX, kfX, cbX, mkX, fvX, ovX, rsX, rtX) (nI c) := by
  have ht : c / 3 < 3 := by omega
  obtain ⟨hn, hN⟩ := hC.1 (c / 3) ht
  refine ⟨nz_3ne, by rw [nz_d3 (by omega)]; exact vp_in_nI ht (by decide), nm_r (e' := nI (N (c / 3))) (by rw [nz_d3 (by omega), nI_clamp (by omega)]; exact hn) (nm_r (nz_16m c) ?_)⟩
  by_cases hz : N (c / 3) = 0
  · refine ⟨1, ?_⟩
    rw [hz]
    exact br_t (by decide) (h0 (fun i j _ hi => absurd hi (by omega)))
  · refine pk_loop (fun n i (_ : Unit) => wX_hasRepeatedInt_17 post (nI (N (c / 3))) (nI (16 * c)) toX soX coX ouX kyX moX diX rrX rwX ceX rcX unX rqX taX acX sceX srcX sunX srqX staX sacX stX cfX cpX chX csX okX ocX koX kfX cbX mkX fvX ovX rsX rtX n (nI i)) (fun i _ => ∀ a b, b < a → a < i → D c a ≠ nu_l → D c a ≠ D c b) (N (c / 3)) 1 () (by omega) (fun a b hb ha => absurd ha (by omega)) ?_ ?_
    · intro n _ hI
      exact br_t (nI_le (Nat.le_refl _) (by omega)) (h0 (fun i j hj hi => hI i j hj hi))
    · intro n i _ hi hI hk
      refine br_f (nI_ge hi (by omega)) ?_
      refine loop_0 (fun m j (_ : Unit) => wX_hasRepeatedInt_26 post (wX_hasRepeatedInt_17 post (nI (N (c / 3))) (nI (16 * c)) toX soX coX ouX kyX moX diX rrX rwX ceX rcX unX rqX taX acX sceX srcX sunX srqX staX sacX stX cfX cpX chX csX okX ocX koX kfX cbX mkX fvX ovX rsX rtX n) (nI (N (c / 3))) (nI (16 * c)) (nI i) toX soX coX ouX kyX moX diX rrX rwX ceX rcX unX rqX taX acX sceX srcX sunX srqX staX sacX stX cfX cpX chX csX okX ocX koX kfX cbX mkX fvX ovX rsX rtX m (nI j)) (fun j _ => D c i ≠ nu_l → ∀ b, b < j → D c i ≠ D c b) i () (fun _ q hq => absurd hq (Nat.not_lt_zero q)) ?_ ?_
      · intro m _ hJ
        refine br_t (nI_le (Nat.le_refl _) (by omega)) (nm_r (nI_1 i) (hk () (fun a b hb ha hv => ?_)))
        rcases Nat.lt_or_ge a i with h | h
        · exact hI a b hb h hv
        · have : a = i := by omega
          subst this
          exact hJ hv b hb
      · intro m j _ hj hJ hm
        have e : ceX (nI (16 * c) + nI i).toNatClampNeg = D c i := by rw [nI_add, nI_clamp (by omega)]; exact hC.2 c i hc hi
        have e2 : ceX (nI (16 * c) + nI j).toNatClampNeg = D c j := by rw [nI_add, nI_clamp (by omega)]; exact hC.2 c j hc (by omega)
        have hi2 : vp_in (nI (16 * c) + nI i) 144 := by rw [nI_add]; exact vp_in_nI (by omega) (by decide)
        have hj2 : vp_in (nI (16 * c) + nI j) 144 := by rw [nI_add]; exact vp_in_nI (by omega) (by decide)
        refine br_f (nI_ge hj (by omega)) ⟨hi2, ?_⟩
        by_cases hv : D c i = nu_l
        · exact br_t (e.trans hv) (nm_r (nI_1 j) (hm () (fun z => absurd hv z)))
        · refine br_f (fun z => hv (e.symm.trans z)) ⟨hi2, hj2, ?_⟩
          by_cases he : D c i = D c j
          · exact br_t (e.trans (he.trans e2.symm)) (h1 (fun z => z i j hj hi hv he))
          · exact br_f (fun z => he (e.symm.trans (z.trans e2))) (nm_r (nI_1 j) (hm () (fun hv => lt_s (hJ hv) he)))
theorem xm_hasStray (hC : db_xc N D ceX rcX) {c t : Nat} (hc : c < 9) (ht : t < 9) (h1 : ¬ fi_s N D t c → post 1) (h0 : fi_s N D t c → post 0) : wpX_hasStrayInt post (toX, soX, coX, ouX, kyX, moX, diX, rrX, rwX, ceX, rcX, unX, rqX, taX, acX, sceX, srcX, sunX, srqX, staX, sacX, stX, cfX, cpX, chX, csX, okX, ocX, koX, kfX, cbX, mkX, fvX, ovX, rsX, rtX) (nI c) (nI t) := by
  have hq : c / 3 < 3 := by omega
  obtain ⟨hn, hN⟩ := hC.1 (c / 3) hq
  refine ⟨nz_3ne, by rw [nz_d3 (by omega)]; exact vp_in_nI hq (by decide), nm_r (e' := nI (N (c / 3))) (by rw [nz_d3 (by omega), nI_clamp (by omega)]; exact hn) ?_⟩
  refine loop_0 (fun n i (_ : Unit) => wX_hasStrayInt_12 post (nI c) (nI t) (nI (N (c / 3))) toX soX coX ouX kyX moX diX rrX rwX ceX rcX unX rqX taX acX sceX srcX sunX srqX staX sacX stX cfX cpX chX csX okX ocX koX kfX cbX mkX fvX ovX rsX rtX n (nI i)) (fun i _ => ∀ a, a < i → D c a ≠ nu_l → ∃ j, j < N (t / 3) ∧ D t j = D c a) (N (c / 3)) () (fun q hq => absurd hq (Nat.not_lt_zero q)) ?_ ?_
  · intro n _ hI
    exact br_t (nI_le (Nat.le_refl _) (by omega)) (h0 hI)
  · intro n i _ hi hI hk
    have e : ceX (16 * nI c + nI i).toNatClampNeg = D c i := by rw [nz_16, nI_clamp (by omega)]; exact hC.2 c i hc hi
    refine br_f (nI_ge hi (by omega)) ⟨by rw [nz_16]; exact vp_in_nI (by omega) (by decide), nm_r e ?_⟩
    by_cases hv : D c i = nu_l
    · exact br_t hv (nm_r (nI_1 i) (hk () (lt_s hI (fun z => absurd hv z))))
    · refine br_f hv (xm_rowWith hC ht (fun r hr er _ => ?_) (fun h => ?_))
      · exact br_f (nz_m1 (by have := (hC.1 (t / 3) (by omega)).2; omega)) (nm_r (nI_1 i) (hk () (lt_s hI (fun _ => ⟨r, hr, er⟩))))
      · refine br_t rfl (h1 (fun z => ?_))
        obtain ⟨j, hj, ej⟩ := z i hi hv
        exact h j hj ej
theorem xm_fits (hC : db_xc N D ceX rcX) (hk : db_k U R T A unX rqX taX acX) {c : Nat} (hc : c < 9) (h1 : fi_t N D (U c) (R c) (T c) c → post 1) (h0 : ¬ fi_t N D (U c) (R c) (T c) c → post 0) : wpX_columnFits post (toX, soX, coX, ouX, kyX, moX, diX, rrX, rwX, ceX, rcX, unX, rqX, taX, acX, sceX, srcX, sunX, srqX, staX, sacX, stX, cfX, cpX, chX, csX, okX, ocX, koX, kfX, cbX, mkX, fvX, ovX, rsX, rtX) (nI c) := by
  obtain ⟨eu, er, et, _⟩ := hk c hc
  have hi : vp_in (nI c) 9 := vp_in_nI hc (by decide)
  have ec : (nI c).toNatClampNeg = c := nI_clamp (by omega)
  have s3 : (U c = true → fi_u N D c) → (R c = true → fi_r N D c) → wX_columnFits_38 post (nI c) toX soX coX ouX kyX moX diX rrX rwX ceX rcX unX rqX taX acX sceX srcX sunX srqX staX sacX stX cfX cpX chX csX okX ocX koX kfX cbX mkX fvX ovX rsX rtX := by
    intro hu hr
    refine ⟨hi, ?_⟩
    rw [ec, et]
    by_cases h : T c < 9
    · rw [ta_lt h]
      refine br_f (ta_m1 h) ⟨hi, xm_hasStray hC hc h (fun hs => ?_) (fun hs => ?_)⟩
      · exact br_f (by decide) (h0 (fun z => hs (z.2.2 h)))
      · exact br_t rfl (h1 ⟨hu, hr, fun _ => hs⟩)
    · exact br_t (ta_ge h) (h1 ⟨hu, hr, fun z => absurd z h⟩)
  have s2 : (U c = true → fi_u N D c) → wX_columnFits_19 post (nI c) toX soX coX ouX kyX moX diX rrX rwX ceX rcX unX rqX taX acX sceX srcX sunX srqX staX sacX stX cfX cpX chX csX okX ocX koX kfX cbX mkX fvX ovX rsX rtX := by
    intro hu
    refine ⟨hi, ?_⟩
    rw [ec, er]
    by_cases h : R c = true
    · refine br_f (bo_n.mpr h) (xm_hasNull hC hc (fun hs => ?_) (fun hs => ?_))
      · exact br_f (by decide) (h0 (fun z => hs (z.2.1 h)))
      · exact br_t rfl (s3 hu (fun _ => hs))
    · exact br_t (bo_0.mpr (by simpa using h)) (s3 hu (fun z => absurd z h))
  refine ⟨hi, ?_⟩
  rw [ec, eu]
  by_cases h : U c = true
  · refine br_f (bo_n.mpr h) (xm_hasRepeated hC hc (fun hs => ?_) (fun hs => ?_))
    · exact br_f (by decide) (h0 (fun z => hs (z.1 h)))
    · exact br_t rfl (s2 (fun _ => hs))
  · exact br_t (bo_0.mpr (by simpa using h)) (s2 (fun z => absurd z h))
end
