theorem nr_0 : narrow .boolean (.int 0) = .int 0 := by
  have h : lw_bz 0 = 0 := by decide
  have := lw_bz_n 0
  rw [h] at this
  exact this
theorem nr_1 : narrow .boolean (.int 1) = .int 1 := by
  have h : lw_bz 1 = 1 := by decide
  have := lw_bz_n 1
  rw [h] at this
  exact this
section
variable {toX soX coX ouX kyX moX diX rrX rwX : Int32} {ceX sceX fvX ovX rsX : Nat → Int64} {rcX unX rqX taX acX srcX sunX srqX staX sacX stX cfX cpX chX csX okX ocX koX kfX cbX mkX rtX : Nat → Int32} {N : Nat → Nat} {D : Nat → Nat → Int64} {U R : Nat → Bool} {T A : Nat → Nat} {M M0 : Nat → Bool}
theorem xm_loses {post : Int32 → Prop} (hC : db_xc N D ceX rcX) (hk : db_k U R T A unX rqX taX acX) (hm : ∀ x, x < 48 → mkX x = bo_i (M x)) {c i : Nat} (hu : T c < 9 → fi_u N D (T c)) (hc : c < 9) (hi : i < N (c / 3)) (h1 : M (16 * (c / 3) + i) = false → lo_p N D T M c i → post 1) (h0 : ¬ (M (16 * (c / 3) + i) = false ∧ lo_p N D T M c i) → post 0) : wpX_losesItsTarget post (toX, soX, coX, ouX, kyX, moX, diX, rrX, rwX, ceX, rcX, unX, rqX, taX, acX, sceX, srcX, sunX, srqX, staX, sacX, stX, cfX, cpX, chX, csX, okX, ocX, koX, kfX, cbX, mkX, fvX, ovX, rsX, rtX) (nI c) (nI i) := by
  have ec : (nI c).toNatClampNeg = c := nI_clamp (by omega)
  have h16 := (hC.1 (c / 3) (by omega)).2
  have hv9 : vp_in (nI c) 9 := vp_in_nI hc (by decide)
  refine ⟨hv9, ?_⟩
  rw [ec, (hk c hc).2.2.1]
  by_cases ht : T c < 9
  · rw [ta_lt ht]
    refine br_f (ta_m1 ht) ⟨nz_3ne, ?_⟩
    rw [nz_d3 (by omega), nz_16, nI_clamp (by omega), hm _ (by omega)]
    refine ⟨vp_in_nI (by omega) (by decide), ?_⟩
    by_cases m : M (16 * (c / 3) + i) = true
    · exact br_f (bo_n.mpr m) (h0 (fun z => by rw [z.1] at m; exact absurd m (by decide)))
    · have m0 : M (16 * (c / 3) + i) = false := by simpa using m
      rw [nz_16, nI_clamp (by omega), hC.2 c i hc hi]
      refine br_t (bo_0.mpr m0) ⟨vp_in_nI (by omega) (by decide), nm_e ?_⟩
      by_cases hv : D c i = nu_l
      · exact br_t hv (h0 (fun z => z.2.1 hv))
      · refine br_f hv ⟨hv9, xm_rowWith hC ht (fun r hr er _ => ?_) (fun h => ?_)⟩
        · have h16' := (hC.1 (T c / 3) (by omega)).2
          refine br_f (nz_m1 (by omega)) ⟨vp_in_nI (by omega) (by decide), ?_⟩
          rw [nI_clamp (by omega), hm _ (by omega)]
          by_cases mr : M (16 * (T c / 3) + r) = true
          · exact br_f (bo_n.mpr mr) (h1 m0 ⟨hv, ht, r, hr, mr, er⟩)
          · refine br_t (bo_0.mpr (by simpa using mr)) (h0 (fun z => ?_))
            obtain ⟨_, _, _, j, hj, mj, ej⟩ := z
            have := fu_eq (hu ht) hj hr (by rw [ej]; exact hv) (ej.trans er.symm)
            subst this
            exact mr mj
        · refine br_t rfl (h0 (fun z => ?_))
          obtain ⟨_, _, _, j, hj, mj, ej⟩ := z
          exact h j hj ej
  · exact br_t (ta_ge ht) (h0 (fun z => ht z.2.2.1))
theorem cn_new {c i : Nat} (h16 : ∀ t, t < 3 → N t ≤ 16) (hc : c < 9) (hi : i < N (c / 3)) (m : M (16 * (c / 3) + i) = false) : cn_b (st_b M (16 * (c / 3) + i)) 48 = cn_b M 48 + 1 := by
  have := h16 (c / 3) (by omega)
  rw [cn_st m, if_pos (by omega)]
theorem lo_one {c i : Nat} (h16 : ∀ t, t < 3 → N t ≤ 16) (h : lo_p N D T M c i) : 1 ≤ cn_b M 48 := by
  obtain ⟨_, ht, j, hj, mj, _⟩ := h
  have := h16 (T c / 3) (by omega)
  exact cn_pos mj 48 (by omega)
theorem xm_markRef {post : Int32 → SX → Prop} (hC : db_xc N D ceX rcX) (hk : db_k U R T A unX rqX taX acX) (hm : ∀ x, x < 48 → mkX x = bo_i (M x)) {c : Nat} (hu : T c < 9 → fi_u N D (T c)) (hc : c < 9) (ha : A c = 1) (sn : sn_d N D T A M0 M)
    (h0 : (∀ r, r < N (c / 3) → ¬ (M (16 * (c / 3) + r) = false ∧ lo_p N D T M c r)) → ∀ mk, (∀ x, x < 48 → mk x = bo_i (M x)) → post 0 (toX, soX, coX, ouX, kyX, moX, diX, rrX, rwX, ceX, rcX, unX, rqX, taX, acX, sceX, srcX, sunX, srqX, staX, sacX, stX, cfX, cpX, chX, csX, okX, ocX, koX, kfX, cbX, mk, fvX, ovX, rsX, rtX))
    (h1 : ∀ mk M', (∀ x, x < 48 → mk x = bo_i (M' x)) → sn_d N D T A M0 M' → 1 ≤ cn_b M 48 → cn_b M 48 < cn_b M' 48 → post 1 (toX, soX, coX, ouX, kyX, moX, diX, rrX, rwX, ceX, rcX, unX, rqX, taX, acX, sceX, srcX, sunX, srqX, staX, sacX, stX, cfX, cpX, chX, csX, okX, ocX, koX, kfX, cbX, mk, fvX, ovX, rsX, rtX)) : wpX_markReferringRows post (toX, soX, coX, ouX, kyX, moX, diX, rrX, rwX, ceX, rcX, unX, rqX, taX, acX, sceX, srcX, sunX, srqX, staX, sacX, stX, cfX, cpX, chX, csX, okX, ocX, koX, kfX, cbX, mkX, fvX, ovX, rsX, rtX) (nI c) := by
  have h16 : ∀ t, t < 3 → N t ≤ 16 := fun t ht => (hC.1 t ht).2
  obtain ⟨hn, hN⟩ := hC.1 (c / 3) (by omega)
  refine ⟨nz_3ne, nm_r (nz_d3 (by omega)) ⟨vp_in_nI (by omega) (by decide), nm_r (e' := nI (N (c / 3))) (by rw [nI_clamp (by omega), hn]) ?_⟩⟩
  refine loop_0 (fun n i (s : Int32 × (Nat → Int32)) => wX_markReferringRows_17 post (nI c) (nI (c / 3)) (nI (N (c / 3))) toX soX coX ouX kyX moX diX rrX rwX n s.1 (nI i) ceX rcX unX rqX taX acX sceX srcX sunX srqX staX sacX stX cfX cpX chX csX okX ocX koX kfX cbX s.2 fvX ovX rsX rtX) (fun i s => ∃ M', (∀ x, x < 48 → s.2 x = bo_i (M' x)) ∧ sn_d N D T A M0 M' ∧ ((s.1 = 0 ∧ M' = M ∧ ∀ r, r < i → ¬ (M (16 * (c / 3) + r) = false ∧ lo_p N D T M c r)) ∨ (s.1 = 1 ∧ 1 ≤ cn_b M 48 ∧ cn_b M 48 < cn_b M' 48))) (N (c / 3)) (0, mkX) ⟨M, hm, sn, Or.inl ⟨rfl, rfl, lt_0⟩⟩ ?_ ?_
  · rintro n ⟨x, mk⟩ ⟨M', hm', sn', hor⟩
    rcases hor with ⟨e, eM, hr⟩ | ⟨e, a, b⟩
    · subst eM
      have e : x = 0 := e
      subst e
      exact br_t (nI_le (Nat.le_refl _) (by omega)) ⟨nr_0, h0 hr mk hm'⟩
    · have e : x = 1 := e
      subst e
      exact br_t (nI_le (Nat.le_refl _) (by omega)) ⟨nr_1, h1 mk M' hm' sn' a b⟩
  · rintro n i ⟨x, mk⟩ hi ⟨M', hm', sn', hor⟩ hn'
    refine br_f (nI_ge hi (by omega)) (xm_loses hC hk hm' hu hc hi (fun m l => ?_) (fun l => ?_))
    · refine br_f (by decide) ⟨by rw [nz_16]; exact vp_in_nI (by omega) (by decide), nm_r (e' := upd mk (16 * (c / 3) + i) (bo_i true)) (by rw [nz_16, nI_clamp (by omega), bo_nar1]) (nm_r (nI_1 i) (hn' (1, upd mk (16 * (c / 3) + i) (bo_i true)) ⟨st_b M' (16 * (c / 3) + i), st_ar hm', sn_step h16 sn' hc hi ha l, Or.inr ⟨rfl, ?_⟩⟩))⟩
      rw [cn_new h16 hc hi m]
      rcases hor with ⟨e, eM, hr⟩ | ⟨e, a, b⟩
      · subst eM
        exact ⟨lo_one h16 l, by omega⟩
      · exact ⟨a, by omega⟩
    · refine br_t rfl (nm_r (nI_1 i) (hn' (x, mk) ⟨M', hm', sn', ?_⟩))
      rcases hor with ⟨e, eM, hr⟩ | h
      · subst eM
        exact Or.inl ⟨e, rfl, lt_s hr l⟩
      · exact Or.inr h
theorem xm_cascade {post : SX → Prop} (hC : db_xc N D ceX rcX) (hk : db_k U R T A unX rqX taX acX) (hm : ∀ x, x < 48 → mkX x = bo_i (M x)) (hu : ∀ c, c < 9 → T c < 9 → fi_u N D (T c)) (hA : ∀ c, c < 9 → A c ≤ 2)
    (h : ∀ mk M', (∀ x, x < 48 → mk x = bo_i (M' x)) → sn_d N D T A M M' → cl_c N D T A M' → post (toX, soX, coX, ouX, kyX, moX, diX, rrX, rwX, ceX, rcX, unX, rqX, taX, acX, sceX, srcX, sunX, srqX, staX, sacX, stX, cfX, cpX, chX, csX, okX, ocX, koX, kfX, cbX, mk, fvX, ovX, rsX, rtX)) : wpX_markRowsThatCascade post (toX, soX, coX, ouX, kyX, moX, diX, rrX, rwX, ceX, rcX, unX, rqX, taX, acX, sceX, srcX, sunX, srqX, staX, sacX, stX, cfX, cpX, chX, csX, okX, ocX, koX, kfX, cbX, mkX, fvX, ovX, rsX, rtX) := by
  have h16 : ∀ t, t < 3 → N t ≤ 16 := fun t ht => (hC.1 t ht).2
  refine loop_0 (fun n p (s : Int32 × (Nat → Int32)) => wX_markRowsThatCascade_4 post n s.1 (nI p) toX soX coX ouX kyX moX diX rrX rwX ceX rcX unX rqX taX acX sceX srcX sunX srqX staX sacX stX cfX cpX chX csX okX ocX koX kfX cbX s.2 fvX ovX rsX rtX) (fun p s => ∃ M', (∀ x, x < 48 → s.2 x = bo_i (M' x)) ∧ sn_d N D T A M M' ∧ ((s.1 = 0 ∧ cl_c N D T A M') ∨ (s.1 = 1 ∧ (p = 0 ∨ p + 1 ≤ cn_b M' 48)))) 48 (1, mkX) ⟨M, hm, sn_refl, Or.inr ⟨rfl, Or.inl rfl⟩⟩ ?_ ?_
  · rintro n ⟨x, mk⟩ ⟨M', hm', sn', hor⟩
    refine br_t (by decide) ?_
    rcases hor with ⟨_, hcl⟩ | ⟨_, z⟩
    · exact h mk M' hm' sn' hcl
    · have := cn_le M' 48
      omega
  · rintro n p ⟨x, mk⟩ hp ⟨M', hm', sn', hor⟩ hn
    refine br_f (nI_ge (b := 48) hp (by decide)) ?_
    rcases hor with ⟨e, hcl⟩ | ⟨e, hpz⟩
    · exact br_t e (h mk M' hm' sn' hcl)
    · have e : x = 1 := e
      subst e
      refine br_f (by decide : ¬ (1 : Int32) = 0) ?_
      refine loop_0 (fun m i (s : Int32 × (Nat → Int32)) => wX_markRowsThatCascade_18 post (wX_markRowsThatCascade_4 post n) (nI p) m s.1 (nI i) toX soX coX ouX kyX moX diX rrX rwX ceX rcX unX rqX taX acX sceX srcX sunX srqX staX sacX stX cfX cpX chX csX okX ocX koX kfX cbX s.2 fvX ovX rsX rtX) (fun i s => ∃ M2, (∀ x, x < 48 → s.2 x = bo_i (M2 x)) ∧ sn_d N D T A M M2 ∧ ((s.1 = 0 ∧ M2 = M' ∧ ∀ c, c < i → A c = 1 → ∀ r, r < N (c / 3) → ¬ (M' (16 * (c / 3) + r) = false ∧ lo_p N D T M' c r)) ∨ (s.1 = 1 ∧ 1 ≤ cn_b M' 48 ∧ cn_b M' 48 < cn_b M2 48))) 9 (0, mk) ⟨M', hm', sn', Or.inl ⟨rfl, rfl, lt_0⟩⟩ ?_ ?_
      · rintro m ⟨x, mk2⟩ ⟨M2, hm2, sn2, hor⟩
        refine br_t (by decide) (nm_r (nI_1 p) (hn (x, mk2) ⟨M2, hm2, sn2, ?_⟩))
        rcases hor with ⟨e, eM, hr⟩ | ⟨e, a, b⟩
        · subst eM
          refine Or.inl ⟨e, fun c r hc hr' ha hl => ?_⟩
          cases hb : M2 (16 * (c / 3) + r) with
          | true => rfl
          | false => exact absurd ⟨hb, hl⟩ (hr c hc ha r hr')
        · exact Or.inr ⟨e, Or.inr (by omega)⟩
      · rintro m i ⟨x, mk2⟩ hi ⟨M2, hm2, sn2, hor⟩ hm'
        refine br_f (nI_ge (b := 9) hi (by decide)) ⟨vp_in_nI hi (by decide), ?_⟩
        rw [nI_clamp (by omega), (hk i hi).2.2.2]
        have hA' := hA i hi
        by_cases ha : A i = 1
        · refine br_t (by rw [ha]; rfl) (xm_markRef hC hk hm2 (hu i hi) hi ha sn2 (fun hno mk3 hm3 => ?_) (fun mk3 M3 hm3 sn3 a b => ?_))
          · refine br_t rfl (nm_r (nI_1 i) (hm' (x, mk3) ⟨M2, hm3, sn2, ?_⟩))
            rcases hor with ⟨e, eM, hr⟩ | z
            · subst eM
              exact Or.inl ⟨e, rfl, lt_s hr (fun _ => hno)⟩
            · exact Or.inr z
          · refine br_f (by decide) (nm_r (nI_1 i) (hm' (1, mk3) ⟨M3, hm3, sn3, Or.inr ⟨rfl, ?_⟩⟩))
            rcases hor with ⟨e, eM, hr⟩ | ⟨e, a', b'⟩
            · subst eM
              exact ⟨a, b⟩
            · exact ⟨a', by omega⟩
        · refine br_f (op_ne (b := 1) (by omega) (by decide) ha) (nm_r (nI_1 i) (hm' (x, mk2) ⟨M2, hm2, sn2, ?_⟩))
          rcases hor with ⟨e, eM, hr⟩ | z
          · exact Or.inl ⟨e, eM, lt_s hr (fun z => absurd z ha)⟩
          · exact Or.inr z
theorem xm_staying {post : Int32 → Prop} (hC : db_xc N D ceX rcX) (hm : ∀ x, x < 48 → mkX x = bo_i (M x)) {q : Nat} (hq : q < 9) {v : Int64} (h1 : (∃ j, j < N (q / 3) ∧ M (16 * (q / 3) + j) = false ∧ D q j = v) → post 1) (h0 : (¬ ∃ j, j < N (q / 3) ∧ M (16 * (q / 3) + j) = false ∧ D q j = v) → post 0) : wpX_stayingRowHas post (toX, soX, coX, ouX, kyX, moX, diX, rrX, rwX, ceX, rcX, unX, rqX, taX, acX, sceX, srcX, sunX, srqX, staX, sacX, stX, cfX, cpX, chX, csX, okX, ocX, koX, kfX, cbX, mkX, fvX, ovX, rsX, rtX) (nI q) v := by
  obtain ⟨hn, hN⟩ := hC.1 (q / 3) (by omega)
  refine ⟨nz_3ne, nm_r (nz_d3 (by omega)) ⟨vp_in_nI (by omega) (by decide), nm_r (e' := nI (N (q / 3))) (by rw [nI_clamp (by omega), hn]) ?_⟩⟩
  refine loop_0 (fun n i (_ : Unit) => wX_stayingRowHas_17 post (nI q) v (nI (q / 3)) (nI (N (q / 3))) toX soX coX ouX kyX moX diX rrX rwX ceX rcX unX rqX taX acX sceX srcX sunX srqX staX sacX stX cfX cpX chX csX okX ocX koX kfX cbX mkX fvX ovX rsX rtX n (nI i)) (fun i _ => ∀ j, j < i → ¬ (M (16 * (q / 3) + j) = false ∧ D q j = v)) (N (q / 3)) () lt_0 ?_ ?_
  · intro n _ hI
    exact br_t (nI_le (Nat.le_refl _) (by omega)) (h0 (fun ⟨j, hj, z⟩ => hI j hj z))
  · intro n i _ hi hI hn'
    refine br_f (nI_ge hi (by omega)) ?_
    rw [nz_16, nz_16, nI_clamp (show 16 * (q / 3) + i < 2 ^ 31 by omega), nI_clamp (show 16 * q + i < 2 ^ 31 by omega), hm _ (by omega), hC.2 q i hq hi]
    refine ⟨vp_in_nI (by omega) (by decide), ?_⟩
    by_cases m : M (16 * (q / 3) + i) = true
    · exact br_f (bo_n.mpr m) (nm_r (nI_1 i) (hn' () (lt_s hI (fun z => by rw [z.1] at m; exact absurd m (by decide)))))
    · have m0 : M (16 * (q / 3) + i) = false := by simpa using m
      refine br_t (bo_0.mpr m0) ⟨vp_in_nI (by omega) (by decide), ?_⟩
      by_cases e : D q i = v
      · exact br_t e (h1 ⟨i, hi, m0, e⟩)
      · exact br_f e (nm_r (nI_1 i) (hn' () (lt_s hI (fun z => e z.2))))
theorem xm_isRef {post : Int32 → Prop} (hC : db_xc N D ceX rcX) (hk : db_k U R T A unX rqX taX acX) (hm : ∀ x, x < 48 → mkX x = bo_i (M x)) {c i : Nat} (hc : c < 9) (hi : i < N (c / 3)) (h1 : (∃ q, q < 9 ∧ T q = c ∧ ∃ j, j < N (q / 3) ∧ M (16 * (q / 3) + j) = false ∧ D q j = D c i) → post 1) (h0 : (¬ ∃ q, q < 9 ∧ T q = c ∧ ∃ j, j < N (q / 3) ∧ M (16 * (q / 3) + j) = false ∧ D q j = D c i) → post 0) : wpX_isReferredToByStaying post (toX, soX, coX, ouX, kyX, moX, diX, rrX, rwX, ceX, rcX, unX, rqX, taX, acX, sceX, srcX, sunX, srqX, staX, sacX, stX, cfX, cpX, chX, csX, okX, ocX, koX, kfX, cbX, mkX, fvX, ovX, rsX, rtX) (nI c) (nI i) := by
  have h16 := (hC.1 (c / 3) (by omega)).2
  refine ⟨by rw [nz_16]; exact vp_in_nI (by omega) (by decide), nm_r (e' := D c i) (by rw [nz_16, nI_clamp (by omega)]; exact hC.2 c i hc hi) ?_⟩
  refine loop_0 (fun n q (_ : Unit) => wX_isReferredToByStaying_15 post (nI c) (D c i) toX soX coX ouX kyX moX diX rrX rwX ceX rcX unX rqX taX acX sceX srcX sunX srqX staX sacX stX cfX cpX chX csX okX ocX koX kfX cbX mkX fvX ovX rsX rtX n (nI q)) (fun q _ => ∀ p, p < q → ¬ (T p = c ∧ ∃ j, j < N (p / 3) ∧ M (16 * (p / 3) + j) = false ∧ D p j = D c i)) 9 () lt_0 ?_ ?_
  · intro n _ hI
    exact br_t (by decide) (h0 (fun ⟨q, hq, z⟩ => hI q hq z))
  · intro n q _ hq hI hn'
    refine br_f (nI_ge (b := 9) hq (by decide)) ⟨vp_in_nI hq (by decide), ?_⟩
    rw [nI_clamp (by omega), (hk q hq).2.2.1]
    by_cases e : T q = c
    · refine br_t ((ta_eq hc).mpr e) (xm_staying hC hm hq (fun z => ?_) (fun z => ?_))
      · exact br_f (by decide) (h1 ⟨q, hq, e, z⟩)
      · exact br_t rfl (nm_r (nI_1 q) (hn' () (lt_s hI (fun w => z w.2))))
    · exact br_f (fun z => e ((ta_eq hc).mp z)) (nm_r (nI_1 q) (hn' () (lt_s hI (fun w => e w.1))))
theorem xm_erViol {post : Int32 → Prop} (hC : db_xc N D ceX rcX) (hk : db_k U R T A unX rqX taX acX) (hm : ∀ x, x < 48 → mkX x = bo_i (M x)) (hu : ∀ c, c < 9 → T c < 9 → fi_u N D (T c)) (hA : ∀ c, c < 9 → A c ≤ 2) (h1 : ∀ c i, c < 9 → i < N (c / 3) → ev_p N D R T A M c i → post 1) (h0 : (∀ c i, c < 9 → i < N (c / 3) → ¬ ev_p N D R T A M c i) → post 0) : wpX_erasingViolates post (toX, soX, coX, ouX, kyX, moX, diX, rrX, rwX, ceX, rcX, unX, rqX, taX, acX, sceX, srcX, sunX, srqX, staX, sacX, stX, cfX, cpX, chX, csX, okX, ocX, koX, kfX, cbX, mkX, fvX, ovX, rsX, rtX) := by
  refine loop_0 (fun n c (_ : Unit) => wX_erasingViolates_2 post toX soX coX ouX kyX moX diX rrX rwX ceX rcX unX rqX taX acX sceX srcX sunX srqX staX sacX stX cfX cpX chX csX okX ocX koX kfX cbX mkX fvX ovX rsX rtX n (nI c)) (fun c _ => ∀ q, q < c → ∀ i, i < N (q / 3) → ¬ ev_p N D R T A M q i) 9 () lt_0 ?_ ?_
  · intro n _ hI
    exact br_t (by decide) (h0 (fun c i hc hi => hI c hc i hi))
  · intro n c _ hc hI hn'
    obtain ⟨hn, hN⟩ := hC.1 (c / 3) (by omega)
    have hv9 : vp_in (nI c) 9 := vp_in_nI hc (by decide)
    have hA' := hA c hc
    have inner : ∀ b : Bool, (b = true ↔ A c = 0 ∨ R c = true) → ∃ m, wX_erasingViolates_44 post (wX_erasingViolates_2 post toX soX coX ouX kyX moX diX rrX rwX ceX rcX unX rqX taX acX sceX srcX sunX srqX staX sacX stX cfX cpX chX csX okX ocX koX kfX cbX mkX fvX ovX rsX rtX n) (nI c) (nI (N (c / 3))) (bo_i b) toX soX coX ouX kyX moX diX rrX rwX ceX rcX unX rqX taX acX sceX srcX sunX srqX staX sacX stX cfX cpX chX csX okX ocX koX kfX cbX mkX fvX ovX rsX rtX m 0 := by
      intro b hb
      refine loop_0 (fun m i (_ : Unit) => wX_erasingViolates_44 post (wX_erasingViolates_2 post toX soX coX ouX kyX moX diX rrX rwX ceX rcX unX rqX taX acX sceX srcX sunX srqX staX sacX stX cfX cpX chX csX okX ocX koX kfX cbX mkX fvX ovX rsX rtX n) (nI c) (nI (N (c / 3))) (bo_i b) toX soX coX ouX kyX moX diX rrX rwX ceX rcX unX rqX taX acX sceX srcX sunX srqX staX sacX stX cfX cpX chX csX okX ocX koX kfX cbX mkX fvX ovX rsX rtX m (nI i)) (fun i _ => ∀ j, j < i → ¬ ev_p N D R T A M c j) (N (c / 3)) () lt_0 ?_ ?_
      · intro m _ hJ
        exact br_t (nI_le (Nat.le_refl _) (by omega)) (nm_r (nI_1 c) (hn' () (lt_s hI hJ)))
      · intro m i _ hi hJ hm'
        refine br_f (nI_ge hi (by omega)) (xm_loses hC hk hm (hu c hc) hc hi (fun mi li => ?_) (fun z => ?_))
        · refine br_f (by decide) ?_
          by_cases ebt : b = true
          · refine br_f (bo_n.mpr ebt) (h1 c i hc hi ⟨mi, li, ?_⟩)
            rcases hb.mp ebt with w | w
            · exact Or.inl w
            · exact Or.inr (Or.inl w)
          · refine br_t (bo_0.mpr (by simpa using ebt)) (xm_isRef hC hk hm hc hi (fun w => ?_) (fun w => ?_))
            · exact br_f (by decide) (h1 c i hc hi ⟨mi, li, Or.inr (Or.inr w)⟩)
            · refine br_t rfl (nm_r (nI_1 i) (hm' () (lt_s hJ (fun z => ?_))))
              rcases z.2.2 with y | y | y
              · exact ebt (hb.mpr (Or.inl y))
              · exact ebt (hb.mpr (Or.inr y))
              · exact w y
        · exact br_t rfl (nm_r (nI_1 i) (hm' () (lt_s hJ (fun w => z ⟨w.1, w.2.1⟩))))
    refine br_f (nI_ge (b := 9) hc (by decide)) ⟨nz_3ne, by rw [nz_d3 (by omega)]; exact vp_in_nI (by omega) (by decide), nm_r (e' := nI (N (c / 3))) (by rw [nz_d3 (by omega), nI_clamp (by omega), hn]) ⟨hv9, ?_⟩⟩
    rw [nI_clamp (by omega), (hk c hc).2.2.2, (hk c hc).2.1]
    by_cases a0 : A c = 0
    · exact br_t (by rw [a0]; rfl) (inner true ⟨fun _ => Or.inl a0, fun _ => rfl⟩)
    · refine br_f (op_ne (b := 0) (by omega) (by decide) a0) ⟨hv9, ?_⟩
      by_cases hr : R c = true
      · exact br_f (bo_n.mpr hr) (inner true ⟨fun _ => Or.inr hr, fun _ => rfl⟩)
      · exact br_t (bo_0.mpr (by simpa using hr)) (inner false ⟨fun z => absurd z (by decide), fun z => by rcases z with w | w; exact absurd w a0; exact absurd w hr⟩)
end
