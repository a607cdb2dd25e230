section
variable {opY soY coY ouY kyY liY diY cmY rrY wiY : Int32} {ceY oceY bceY rsY : Nat → Int64} {maY omaY bmaY unY rqY bunY brqY rfY acY brfY bacY srY csY ccY cpY cwY okY osY ocY koY ciY kfY cbY goY geY keY : Nat → Int32} {N : Nat → Nat} {D : Nat → Nat → Int64} {U R : Nat → Bool} {T A : Nat → Nat} {post : Int32 → Prop}
theorem ym_within {v : Int32} {n : Nat} (hn : n < 2 ^ 31) (h0 : (∀ j, j < n → v ≠ nI j) → post 0) (h1 : ∀ j, j < n → v = nI j → post 1) : wpY_within post v (nI n) := by
  refine br_c (fun hv => h0 (fun j hj e => ?_)) (fun hp => ?_)
  · rw [e] at hv
    exact nI_pos (by omega) hv
  · obtain ⟨j, hj, rfl⟩ := nI_of hp
    refine pk_le n j (fun h => h0 (fun q hq e => ?_)) (fun h => h1 j (by omega) rfl)
    rw [nI_eq hj (by omega)] at e
    omega
theorem ym_ix {c r : Nat} (hc : c < 9) : ((48 * (nI c / 3)) + (3 * nI r)) + (nI c - nI c / 3 * 3) = nI (48 * (c / 3) + 3 * r + c % 3) := by
  rw [nz_r3 (by omega), nz_d3 (by omega), nz_48, nz_3m, nI_add, nI_add]
theorem ym_at {post : Int64 → Prop} (hC : db_yc N D ceY maY) {c r : Nat} (hc : c < 9) (hr : r < N (c / 3)) (h : post (D c r)) : wpY_at post (opY, soY, coY, ouY, kyY, liY, diY, cmY, rrY, wiY, ceY, oceY, bceY, maY, omaY, bmaY, unY, rqY, bunY, brqY, rfY, acY, brfY, bacY, srY, csY, ccY, cpY, cwY, okY, osY, ocY, koY, ciY, kfY, cbY, goY, rsY, geY, keY) (nI c) (nI r) := by
  have hN := (hC.1 (c / 3) (by omega)).2
  refine ⟨nz_3ne, nz_3ne, ?_⟩
  rw [ym_ix hc, nI_clamp (by omega), hC.2 c r hc hr]
  exact ⟨vp_in_nI (by omega) (by decide), h⟩
theorem ym_isThere (hC : db_yc N D ceY maY) {t : Nat} (ht : t < 9) {v : Int64} (h1 : (∃ j, j < N (t / 3) ∧ D t j = v) → post 1) (h0 : (∀ j, j < N (t / 3) → D t j ≠ v) → post 0) : wpY_isThere post (opY, soY, coY, ouY, kyY, liY, diY, cmY, rrY, wiY, ceY, oceY, bceY, maY, omaY, bmaY, unY, rqY, bunY, brqY, rfY, acY, brfY, bacY, srY, csY, ccY, cpY, cwY, okY, osY, ocY, koY, ciY, kfY, cbY, goY, rsY, geY, keY) (nI t) v := by
  have hq : t / 3 < 3 := by omega
  obtain ⟨hn, hN⟩ := hC.1 (t / 3) hq
  have en : maY (nI t / 3).toNatClampNeg = nI (N (t / 3)) := by rw [nz_d3 (by omega), nI_clamp (by omega)]; exact hn
  have hi3 : vp_in (nI t / 3) 3 := by rw [nz_d3 (by omega)]; exact vp_in_nI hq (by decide)
  refine loop_0 (fun n i (_ : Unit) => wY_isThere_3 post (nI t) v opY soY coY ouY kyY liY diY cmY rrY wiY ceY oceY bceY maY omaY bmaY unY rqY bunY brqY rfY acY brfY bacY srY csY ccY cpY cwY okY osY ocY koY ciY kfY cbY goY rsY geY keY n (nI i)) (fun i _ => ∀ a, a < i → D t a ≠ v) (N (t / 3)) () (fun q hq => absurd hq (Nat.not_lt_zero q)) ?_ ?_
  · intro n _ hI
    refine ⟨nz_3ne, hi3, ?_⟩
    rw [en]
    exact br_t (nI_le (Nat.le_refl _) (by omega)) (h0 hI)
  · intro n i _ hi hI hk
    refine ⟨nz_3ne, hi3, ?_⟩
    rw [en]
    refine br_f (nI_ge hi (by omega)) (ym_at hC ht hi ?_)
    by_cases hv : D t i = v
    · exact br_t hv (h1 ⟨i, hi, hv⟩)
    · exact br_f hv (nm_r (nI_1 i) (hk () (lt_s hI hv)))
theorem ym_fits (hC : db_yc N D ceY maY) (hk : db_k U R T A unY rqY rfY acY) {c : Nat} (hc : c < 9) (h1 : fi_t N D (U c) (R c) (T c) c → post 1) (h0 : ¬ fi_t N D (U c) (R c) (T c) c → post 0) : wpY_fits post (opY, soY, coY, ouY, kyY, liY, diY, cmY, rrY, wiY, ceY, oceY, bceY, maY, omaY, bmaY, unY, rqY, bunY, brqY, rfY, acY, brfY, bacY, srY, csY, ccY, cpY, cwY, okY, osY, ocY, koY, ciY, kfY, cbY, goY, rsY, geY, keY) (nI c) := by
  obtain ⟨eu, er, et, _⟩ := hk c hc
  have hi9 : vp_in (nI c) 9 := vp_in_nI hc (by decide)
  have ec : (nI c).toNatClampNeg = c := nI_clamp (by omega)
  have hq : c / 3 < 3 := by omega
  obtain ⟨hn, hN⟩ := hC.1 (c / 3) hq
  refine ⟨nz_3ne, by rw [nz_d3 (by omega)]; exact vp_in_nI hq (by decide), nm_r (e' := nI (N (c / 3))) (by rw [nz_d3 (by omega), nI_clamp (by omega)]; exact hn) ?_⟩
  refine loop_0 (fun n i (_ : Unit) => wY_fits_11 post (nI c) (nI (N (c / 3))) opY soY coY ouY kyY liY diY cmY rrY wiY ceY oceY bceY maY omaY bmaY unY rqY bunY brqY rfY acY brfY bacY srY csY ccY cpY cwY okY osY ocY koY ciY kfY cbY goY rsY geY keY n (nI i)) (fun i _ => (U c = true → ∀ a b, b < a → a < i → D c a ≠ nu_l → D c a ≠ D c b) ∧ (R c = true → ∀ a, a < i → D c a ≠ nu_l) ∧ (T c < 9 → ∀ a, a < i → D c a ≠ nu_l → ∃ j, j < N (T c / 3) ∧ D (T c) j = D c a)) (N (c / 3)) () ⟨fun _ a b _ ha => absurd ha (Nat.not_lt_zero _), fun _ a ha => absurd ha (Nat.not_lt_zero _), fun _ a ha => absurd ha (Nat.not_lt_zero _)⟩ ?_ ?_
  · intro n _ hI
    exact br_t (nI_le (Nat.le_refl _) (by omega)) (h1 ⟨fun h a b hb ha => hI.1 h a b hb ha, hI.2.1, hI.2.2⟩)
  · intro n i _ hi hI hk
    refine br_f (nI_ge hi (by omega)) (ym_at hC hc hi ?_)
    by_cases hv : D c i = nu_l
    · refine br_t hv ⟨hi9, ?_⟩
      rw [ec, er]
      by_cases hr : R c = true
      · exact br_f (bo_n.mpr hr) (h0 (fun z => z.2.1 hr i hi hv))
      · refine br_t (bo_0.mpr (by simpa using hr)) (nm_r (nI_1 i) (hk () ⟨fun hu a b hb ha hv2 => ?_, fun z => absurd z hr, fun ht => lt_s (hI.2.2 ht) (fun z => absurd hv z)⟩))
        rcases Nat.lt_or_ge a i with h | h
        · exact hI.1 hu a b hb h hv2
        · have : a = i := by omega
          subst this
          exact absurd hv hv2
    · refine br_f hv ?_
      have fin : (U c = true → ∀ b, b < i → D c i ≠ D c b) → wY_fits_83 post (wY_fits_11 post (nI c) (nI (N (c / 3))) opY soY coY ouY kyY liY diY cmY rrY wiY ceY oceY bceY maY omaY bmaY unY rqY bunY brqY rfY acY brfY bacY srY csY ccY cpY cwY okY osY ocY koY ciY kfY cbY goY rsY geY keY n) (nI c) (nI (N (c / 3))) (nI i) (D c i) opY soY coY ouY kyY liY diY cmY rrY wiY ceY oceY bceY maY omaY bmaY unY rqY bunY brqY rfY acY brfY bacY srY csY ccY cpY cwY okY osY ocY koY ciY kfY cbY goY rsY geY keY := by
        intro hub
        have nxt : (T c < 9 → ∃ j, j < N (T c / 3) ∧ D (T c) j = D c i) → wY_fits_11 post (nI c) (nI (N (c / 3))) opY soY coY ouY kyY liY diY cmY rrY wiY ceY oceY bceY maY omaY bmaY unY rqY bunY brqY rfY acY brfY bacY srY csY ccY cpY cwY okY osY ocY koY ciY kfY cbY goY rsY geY keY n (nI (i + 1)) := by
          intro hst
          refine hk () ⟨fun hu a b hb ha hv2 => ?_, fun hr => lt_s (hI.2.1 hr) hv, fun ht => lt_s (hI.2.2 ht) (fun _ => hst ht)⟩
          rcases Nat.lt_or_ge a i with h | h
          · exact hI.1 hu a b hb h hv2
          · have : a = i := by omega
            subst this
            exact hub hu b hb
        refine ⟨hi9, ?_⟩
        rw [ec, et]
        by_cases ht : T c < 9
        · rw [ta_lt ht]
          refine br_f (ta_nn ht) ⟨hi9, ym_isThere hC ht (fun h => ?_) (fun h => ?_)⟩
          · exact br_f (by decide) (nm_r (nI_1 i) (nxt (fun _ => h)))
          · refine br_t rfl (h0 (fun z => ?_))
            obtain ⟨j, hj, ej⟩ := z.2.2 ht i hi hv
            exact h j hj ej
        · exact br_t (ta_neg.mpr ht) (nm_r (nI_1 i) (nxt (fun z => absurd z ht)))
      refine loop_0 (fun m j (_ : Unit) => wY_fits_47 post (wY_fits_11 post (nI c) (nI (N (c / 3))) opY soY coY ouY kyY liY diY cmY rrY wiY ceY oceY bceY maY omaY bmaY unY rqY bunY brqY rfY acY brfY bacY srY csY ccY cpY cwY okY osY ocY koY ciY kfY cbY goY rsY geY keY n) (nI c) (nI (N (c / 3))) (nI i) (D c i) opY soY coY ouY kyY liY diY cmY rrY wiY ceY oceY bceY maY omaY bmaY unY rqY bunY brqY rfY acY brfY bacY srY csY ccY cpY cwY okY osY ocY koY ciY kfY cbY goY rsY geY keY m (nI j)) (fun j _ => ∀ b, b < j → D c i ≠ D c b) i () (fun q hq => absurd hq (Nat.not_lt_zero q)) ?_ ?_
      · intro m _ hJ
        exact br_t (nI_le (Nat.le_refl _) (by omega)) (fin (fun _ => hJ))
      · intro m j _ hj hJ hm
        refine br_f (nI_ge hj (by omega)) ⟨hi9, ?_⟩
        rw [ec, eu]
        by_cases hu : U c = true
        · refine br_f (bo_n.mpr hu) (ym_at hC hc (by omega) ?_)
          by_cases he : D c j = D c i
          · exact br_t he (h0 (fun z => z.1 hu i j hj hi hv he.symm))
          · exact br_f he (nm_r (nI_1 j) (hm () (lt_s hJ (fun z => he z.symm))))
        · exact br_t (bo_0.mpr (by simpa using hu)) (fin (fun z => absurd z hu))
theorem ym_allFit (hC : db_yc N D ceY maY) (hk : db_k U R T A unY rqY rfY acY) (h1 : (∀ c, c < 9 → fi_t N D (U c) (R c) (T c) c) → post 1) (h0 : (¬ ∀ c, c < 9 → fi_t N D (U c) (R c) (T c) c) → post 0) : wpY_allFit post (opY, soY, coY, ouY, kyY, liY, diY, cmY, rrY, wiY, ceY, oceY, bceY, maY, omaY, bmaY, unY, rqY, bunY, brqY, rfY, acY, brfY, bacY, srY, csY, ccY, cpY, cwY, okY, osY, ocY, koY, ciY, kfY, cbY, goY, rsY, geY, keY) := by
  refine loop_0 (fun n i (_ : Unit) => wY_allFit_2 post opY soY coY ouY kyY liY diY cmY rrY wiY ceY oceY bceY maY omaY bmaY unY rqY bunY brqY rfY acY brfY bacY srY csY ccY cpY cwY okY osY ocY koY ciY kfY cbY goY rsY geY keY n (nI i)) (fun i _ => ∀ c, c < i → fi_t N D (U c) (R c) (T c) c) 9 () (fun q hq => absurd hq (Nat.not_lt_zero q)) ?_ ?_
  · intro n _ hI
    exact br_t (by decide) (h1 hI)
  · intro n i _ hi hI hn
    refine br_f (nI_ge (b := 9) hi (by decide)) (ym_fits hC hk hi (fun h => ?_) (fun h => ?_))
    · exact br_f (by decide) (nm_r (nI_1 i) (hn () (lt_s hI h)))
    · exact br_t rfl (h0 (fun z => h (z i hi)))
end
