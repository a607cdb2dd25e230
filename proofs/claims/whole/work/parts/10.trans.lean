section
variable {toX soX coX ouX kyX moX diX rrX rwX : Int32} {ceX sceX fvX ovX rsX : Nat → Int64} {rcX unX rqX taX acX srcX sunX srqX staX sacX stX cfX cpX chX csX okX ocX koX kfX cbX mkX rtX : Nat → Int32} {opY soY coY ouY kyY liY diY cmY rrY wiY : Int32} {ceY oceY bceY rsY : Nat → Int64} {maY omaY bmaY unY rqY bunY brqY rfY acY brfY bacY srY csY ccY cpY cwY okY osY ocY koY ciY kfY cbY goY geY keY : Nat → Int32} {N : Nat → Nat} {D : Nat → Nat → Int64} {U R : Nat → Bool} {T A : Nat → Nat}
theorem dx_ext {ce ce' : Nat → Int64} {rc rc' : Nat → Int32} (h : db_xc N D ce rc) (h1 : ∀ i, i < 144 → ce' i = ce i) (h2 : ∀ t, t < 3 → rc' t = rc t) : db_xc N D ce' rc' := by
  refine ⟨fun t ht => ?_, fun c r hc hr => ?_⟩
  · rw [h2 t ht]
    exact h.1 t ht
  · have := (h.1 (c / 3) (by omega)).2
    rw [h1 _ (by omega)]
    exact h.2 c r hc hr
theorem dk_ext {un rq ta ac un' rq' ta' ac' : Nat → Int32} (h : db_k U R T A un rq ta ac) (h1 : ∀ c, c < 9 → un' c = vp_nar .boolean (un c) ∧ rq' c = vp_nar .boolean (rq c) ∧ ta' c = ta c ∧ ac' c = ac c) : db_k U R T A un' rq' ta' ac' := by
  intro c hc
  obtain ⟨a, b, d, e⟩ := h1 c hc
  obtain ⟨a', b', d', e'⟩ := h c hc
  rw [a, b, d, e, a', b', bo_nar, bo_nar]
  exact ⟨rfl, rfl, d', e'⟩
theorem k4_step {un rq ta ac : Nat → Int32} {s : (Nat → Int32) × (Nat → Int32) × (Nat → Int32) × (Nat → Int32)} {i : Nat} (hi : i < 2 ^ 31)
    (h : ∀ c, c < i → s.1 c = vp_nar .boolean (un c) ∧ s.2.1 c = vp_nar .boolean (rq c) ∧ s.2.2.1 c = ta c ∧ s.2.2.2 c = ac c) :
    ∀ c, c < i + 1 → upd s.1 (nI i).toNatClampNeg (vp_nar .boolean (un (nI i).toNatClampNeg)) c = vp_nar .boolean (un c) ∧ upd s.2.1 (nI i).toNatClampNeg (vp_nar .boolean (rq (nI i).toNatClampNeg)) c = vp_nar .boolean (rq c) ∧ upd s.2.2.1 (nI i).toNatClampNeg (ta (nI i).toNatClampNeg) c = ta c ∧ upd s.2.2.2 (nI i).toNatClampNeg (ac (nI i).toNatClampNeg) c = ac c := by
  rw [nI_clamp hi]
  refine lt_s (fun j hj => ?_) ⟨pk_us, pk_us, pk_us, pk_us⟩
  have hne : j ≠ i := by omega
  rw [pk_un hne, pk_un hne, pk_un hne, pk_un hne]
  exact h j hj
theorem xm_save {post : SX → Prop} (h : ∀ ce rc un rq ta ac, (∀ i, i < 144 → ce i = ceX i) → (∀ t, t < 3 → rc t = rcX t) → (∀ c, c < 9 → un c = vp_nar .boolean (unX c) ∧ rq c = vp_nar .boolean (rqX c) ∧ ta c = taX c ∧ ac c = acX c) → post (toX, soX, coX, ouX, kyX, moX, diX, rrX, rwX, ceX, rcX, unX, rqX, taX, acX, ce, rc, un, rq, ta, ac, stX, cfX, cpX, chX, csX, okX, ocX, koX, kfX, cbX, mkX, fvX, ovX, rsX, rtX)) : wpX_saveTables post (toX, soX, coX, ouX, kyX, moX, diX, rrX, rwX, ceX, rcX, unX, rqX, taX, acX, sceX, srcX, sunX, srqX, staX, sacX, stX, cfX, cpX, chX, csX, okX, ocX, koX, kfX, cbX, mkX, fvX, ovX, rsX, rtX) := by
  refine loop_0 (fun n i s => wX_saveTables_2 post toX soX coX ouX kyX moX diX rrX rwX n (nI i) ceX rcX unX rqX taX acX s srcX sunX srqX staX sacX stX cfX cpX chX csX okX ocX koX kfX cbX mkX fvX ovX rsX rtX) (fun i s => ∀ j, j < i → s j = ceX j) 144 sceX lt_0 ?_ ?_
  · intro n s1 hI1
    refine br_t (by decide) (loop_0 (fun n i s => wX_saveTables_29 post toX soX coX ouX kyX moX diX rrX rwX n (nI i) ceX rcX unX rqX taX acX s1 s sunX srqX staX sacX stX cfX cpX chX csX okX ocX koX kfX cbX mkX fvX ovX rsX rtX) (fun i s => ∀ j, j < i → s j = rcX j) 3 srcX lt_0 ?_ ?_)
    · intro n s2 hI2
      refine br_t (by decide) (loop_0 (fun n i (s : (Nat → Int32) × (Nat → Int32) × (Nat → Int32) × (Nat → Int32)) => wX_saveTables_54 post toX soX coX ouX kyX moX diX rrX rwX n (nI i) ceX rcX unX rqX taX acX s1 s2 s.1 s.2.1 s.2.2.1 s.2.2.2 stX cfX cpX chX csX okX ocX koX kfX cbX mkX fvX ovX rsX rtX) (fun i s => ∀ c, c < i → s.1 c = vp_nar .boolean (unX c) ∧ s.2.1 c = vp_nar .boolean (rqX c) ∧ s.2.2.1 c = taX c ∧ s.2.2.2 c = acX c) 9 (sunX, srqX, staX, sacX) lt_0 ?_ ?_)
      · intro n s hI
        exact br_t (by decide) (h _ _ _ _ _ _ hI1 hI2 hI)
      · intro n i s hi hI hn
        have v : vp_in (nI i) 9 := vp_in_nI hi (by decide)
        exact br_f (nI_ge (b := 9) hi (by decide)) ⟨v, v, nm_e ⟨v, v, nm_e ⟨v, v, nm_e ⟨v, v, nm_e (nm_r (nI_1 i) (hn (_, _, _, _) (k4_step (by omega) hI)))⟩⟩⟩⟩
    · intro n i s hi hI hn
      exact br_f (nI_ge (b := 3) hi (by decide)) ⟨vp_in_nI hi (by decide), vp_in_nI hi (by decide), nm_e (nm_r (nI_1 i) (hn _ (ui_step (by omega) hI)))⟩
  · intro n i s hi hI hn
    exact br_f (nI_ge (b := 144) hi (by decide)) ⟨vp_in_nI hi (by decide), vp_in_nI hi (by decide), nm_e (nm_r (nI_1 i) (hn _ (ul_step (by omega) hI)))⟩
theorem xm_restore {post : SX → Prop} (h : ∀ ce rc un rq ta ac, (∀ i, i < 144 → ce i = sceX i) → (∀ t, t < 3 → rc t = srcX t) → (∀ c, c < 9 → un c = vp_nar .boolean (sunX c) ∧ rq c = vp_nar .boolean (srqX c) ∧ ta c = staX c ∧ ac c = sacX c) → post (toX, soX, coX, ouX, kyX, moX, diX, rrX, rwX, ce, rc, un, rq, ta, ac, sceX, srcX, sunX, srqX, staX, sacX, stX, cfX, cpX, chX, csX, okX, ocX, koX, kfX, cbX, mkX, fvX, ovX, rsX, rtX)) : wpX_restoreTables post (toX, soX, coX, ouX, kyX, moX, diX, rrX, rwX, ceX, rcX, unX, rqX, taX, acX, sceX, srcX, sunX, srqX, staX, sacX, stX, cfX, cpX, chX, csX, okX, ocX, koX, kfX, cbX, mkX, fvX, ovX, rsX, rtX) := by
  refine loop_0 (fun n i s => wX_restoreTables_2 post toX soX coX ouX kyX moX diX rrX rwX n (nI i) s rcX unX rqX taX acX sceX srcX sunX srqX staX sacX stX cfX cpX chX csX okX ocX koX kfX cbX mkX fvX ovX rsX rtX) (fun i s => ∀ j, j < i → s j = sceX j) 144 ceX lt_0 ?_ ?_
  · intro n s1 hI1
    refine br_t (by decide) (loop_0 (fun n i s => wX_restoreTables_29 post toX soX coX ouX kyX moX diX rrX rwX n (nI i) s1 s unX rqX taX acX sceX srcX sunX srqX staX sacX stX cfX cpX chX csX okX ocX koX kfX cbX mkX fvX ovX rsX rtX) (fun i s => ∀ j, j < i → s j = srcX j) 3 rcX lt_0 ?_ ?_)
    · intro n s2 hI2
      refine br_t (by decide) (loop_0 (fun n i (s : (Nat → Int32) × (Nat → Int32) × (Nat → Int32) × (Nat → Int32)) => wX_restoreTables_54 post toX soX coX ouX kyX moX diX rrX rwX n (nI i) s1 s2 s.1 s.2.1 s.2.2.1 s.2.2.2 sceX srcX sunX srqX staX sacX stX cfX cpX chX csX okX ocX koX kfX cbX mkX fvX ovX rsX rtX) (fun i s => ∀ c, c < i → s.1 c = vp_nar .boolean (sunX c) ∧ s.2.1 c = vp_nar .boolean (srqX c) ∧ s.2.2.1 c = staX c ∧ s.2.2.2 c = sacX c) 9 (unX, rqX, taX, acX) lt_0 ?_ ?_)
      · intro n s hI
        exact br_t (by decide) (h _ _ _ _ _ _ hI1 hI2 hI)
      · intro n i s hi hI hn
        have v : vp_in (nI i) 9 := vp_in_nI hi (by decide)
        exact br_f (nI_ge (b := 9) hi (by decide)) ⟨v, v, nm_e ⟨v, v, nm_e ⟨v, v, nm_e ⟨v, v, nm_e (nm_r (nI_1 i) (hn (_, _, _, _) (k4_step (by omega) hI)))⟩⟩⟩⟩
    · intro n i s hi hI hn
      exact br_f (nI_ge (b := 3) hi (by decide)) ⟨vp_in_nI hi (by decide), vp_in_nI hi (by decide), nm_e (nm_r (nI_1 i) (hn _ (ui_step (by omega) hI)))⟩
  · intro n i s hi hI hn
    exact br_f (nI_ge (b := 144) hi (by decide)) ⟨vp_in_nI hi (by decide), vp_in_nI hi (by decide), nm_e (nm_r (nI_1 i) (hn _ (ul_step (by omega) hI)))⟩
theorem yv_begin {post : Int32 → SY → Prop} (h0 : ¬ opY = 0 → post 0 (opY, soY, coY, ouY, kyY, liY, diY, cmY, rrY, wiY, ceY, oceY, bceY, maY, omaY, bmaY, unY, rqY, bunY, brqY, rfY, acY, brfY, bacY, srY, csY, ccY, cpY, cwY, okY, osY, ocY, koY, ciY, kfY, cbY, goY, rsY, geY, keY)) (h : opY = 0 → ∀ ce ma un rq rf ac, (∀ i, i < 144 → ce i = ceY i) → (∀ t, t < 3 → ma t = maY t) → (∀ c, c < 9 → un c = vp_nar .boolean (unY c) ∧ rq c = vp_nar .boolean (rqY c) ∧ rf c = rfY c ∧ ac c = acY c) → post 1 (1, soY, coY, ouY, kyY, liY, diY, cmY, rrY, wiY, ceY, oceY, ce, maY, omaY, ma, unY, rqY, un, rq, rfY, acY, rf, ac, srY, csY, ccY, cpY, cwY, okY, osY, ocY, koY, ciY, kfY, cbY, goY, rsY, geY, keY)) : wpY_begin post (opY, soY, coY, ouY, kyY, liY, diY, cmY, rrY, wiY, ceY, oceY, bceY, maY, omaY, bmaY, unY, rqY, bunY, brqY, rfY, acY, brfY, bacY, srY, csY, ccY, cpY, cwY, okY, osY, ocY, koY, ciY, kfY, cbY, goY, rsY, geY, keY) := by
  refine br_c (fun z => ?_) (fun z => h0 z)
  have h := h z
  refine loop_0 (fun n i s => wY_begin_16 post 1 soY coY ouY kyY liY diY cmY rrY wiY n (nI i) ceY oceY s maY omaY bmaY unY rqY bunY brqY rfY acY brfY bacY srY csY ccY cpY cwY okY osY ocY koY ciY kfY cbY goY rsY geY keY) (fun i s => ∀ j, j < i → s j = ceY j) 144 bceY lt_0 ?_ ?_
  · intro n s1 hI1
    refine br_t (by decide) (loop_0 (fun n i s => wY_begin_43 post 1 soY coY ouY kyY liY diY cmY rrY wiY n (nI i) ceY oceY s1 maY omaY s unY rqY bunY brqY rfY acY brfY bacY srY csY ccY cpY cwY okY osY ocY koY ciY kfY cbY goY rsY geY keY) (fun i s => ∀ j, j < i → s j = maY j) 3 bmaY lt_0 ?_ ?_)
    · intro n s2 hI2
      refine br_t (by decide) (loop_0 (fun n i (s : (Nat → Int32) × (Nat → Int32) × (Nat → Int32) × (Nat → Int32)) => wY_begin_68 post 1 soY coY ouY kyY liY diY cmY rrY wiY n (nI i) ceY oceY s1 maY omaY s2 unY rqY s.1 s.2.1 rfY acY s.2.2.1 s.2.2.2 srY csY ccY cpY cwY okY osY ocY koY ciY kfY cbY goY rsY geY keY) (fun i s => ∀ c, c < i → s.1 c = vp_nar .boolean (unY c) ∧ s.2.1 c = vp_nar .boolean (rqY c) ∧ s.2.2.1 c = rfY c ∧ s.2.2.2 c = acY c) 9 (bunY, brqY, brfY, bacY) lt_0 ?_ ?_)
      · intro n s hI
        exact br_t (by decide) (h _ _ _ _ _ _ hI1 hI2 hI)
      · intro n i s hi hI hn
        have v : vp_in (nI i) 9 := vp_in_nI hi (by decide)
        exact br_f (nI_ge (b := 9) hi (by decide)) ⟨v, v, nm_e ⟨v, v, nm_e ⟨v, v, nm_e ⟨v, v, nm_e (nm_r (nI_1 i) (hn (_, _, _, _) (k4_step (by omega) hI)))⟩⟩⟩⟩
    · intro n i s hi hI hn
      exact br_f (nI_ge (b := 3) hi (by decide)) ⟨vp_in_nI hi (by decide), vp_in_nI hi (by decide), nm_e (nm_r (nI_1 i) (hn _ (ui_step (by omega) hI)))⟩
  · intro n i s hi hI hn
    exact br_f (nI_ge (b := 144) hi (by decide)) ⟨vp_in_nI hi (by decide), vp_in_nI hi (by decide), nm_e (nm_r (nI_1 i) (hn _ (ul_step (by omega) hI)))⟩
theorem yv_end {post : Int32 → SY → Prop} {p : Int32} (h0 : opY = 0 → post 0 (opY, soY, coY, ouY, kyY, liY, diY, cmY, rrY, wiY, ceY, oceY, bceY, maY, omaY, bmaY, unY, rqY, bunY, brqY, rfY, acY, brfY, bacY, srY, csY, ccY, cpY, cwY, okY, osY, ocY, koY, ciY, kfY, cbY, goY, rsY, geY, keY)) (h1 : ¬ opY = 0 → ¬ p = 0 → post 1 (0, soY, coY, ouY, kyY, liY, diY, cmY, rrY, wiY, ceY, oceY, bceY, maY, omaY, bmaY, unY, rqY, bunY, brqY, rfY, acY, brfY, bacY, srY, csY, ccY, cpY, cwY, okY, osY, ocY, koY, ciY, kfY, cbY, goY, rsY, geY, keY)) (h : ¬ opY = 0 → p = 0 → ∀ ce ma un rq rf ac, (∀ i, i < 144 → ce i = bceY i) → (∀ t, t < 3 → ma t = bmaY t) → (∀ c, c < 9 → un c = vp_nar .boolean (bunY c) ∧ rq c = vp_nar .boolean (brqY c) ∧ rf c = brfY c ∧ ac c = bacY c) → post 1 (0, soY, coY, ouY, kyY, liY, diY, cmY, rrY, wiY, ce, oceY, bceY, ma, omaY, bmaY, un, rq, bunY, brqY, rf, ac, brfY, bacY, srY, csY, ccY, cpY, cwY, okY, osY, ocY, koY, ciY, kfY, cbY, goY, rsY, geY, keY)) : wpY_end post (opY, soY, coY, ouY, kyY, liY, diY, cmY, rrY, wiY, ceY, oceY, bceY, maY, omaY, bmaY, unY, rqY, bunY, brqY, rfY, acY, brfY, bacY, srY, csY, ccY, cpY, cwY, okY, osY, ocY, koY, ciY, kfY, cbY, goY, rsY, geY, keY) p := by
  refine br_c (fun z => h0 z) (fun z => br_c (fun hp => ?_) (fun hp => h1 z hp))
  have h := h z hp
  refine loop_0 (fun n i s => wY_end_22 post 0 soY coY ouY kyY liY diY cmY rrY wiY n (nI i) s oceY bceY maY omaY bmaY unY rqY bunY brqY rfY acY brfY bacY srY csY ccY cpY cwY okY osY ocY koY ciY kfY cbY goY rsY geY keY) (fun i s => ∀ j, j < i → s j = bceY j) 144 ceY lt_0 ?_ ?_
  · intro n s1 hI1
    refine br_t (by decide) (loop_0 (fun n i s => wY_end_49 post 0 soY coY ouY kyY liY diY cmY rrY wiY n (nI i) s1 oceY bceY s omaY bmaY unY rqY bunY brqY rfY acY brfY bacY srY csY ccY cpY cwY okY osY ocY koY ciY kfY cbY goY rsY geY keY) (fun i s => ∀ j, j < i → s j = bmaY j) 3 maY lt_0 ?_ ?_)
    · intro n s2 hI2
      refine br_t (by decide) (loop_0 (fun n i (s : (Nat → Int32) × (Nat → Int32) × (Nat → Int32) × (Nat → Int32)) => wY_end_74 post 0 soY coY ouY kyY liY diY cmY rrY wiY n (nI i) s1 oceY bceY s2 omaY bmaY s.1 s.2.1 bunY brqY s.2.2.1 s.2.2.2 brfY bacY srY csY ccY cpY cwY okY osY ocY koY ciY kfY cbY goY rsY geY keY) (fun i s => ∀ c, c < i → s.1 c = vp_nar .boolean (bunY c) ∧ s.2.1 c = vp_nar .boolean (brqY c) ∧ s.2.2.1 c = brfY c ∧ s.2.2.2 c = bacY c) 9 (unY, rqY, rfY, acY) lt_0 ?_ ?_)
      · intro n s hI
        exact br_t (by decide) (h _ _ _ _ _ _ hI1 hI2 hI)
      · intro n i s hi hI hn
        have v : vp_in (nI i) 9 := vp_in_nI hi (by decide)
        exact br_f (nI_ge (b := 9) hi (by decide)) ⟨v, v, nm_e ⟨v, v, nm_e ⟨v, v, nm_e ⟨v, v, nm_e (nm_r (nI_1 i) (hn (_, _, _, _) (k4_step (by omega) hI)))⟩⟩⟩⟩
    · intro n i s hi hI hn
      exact br_f (nI_ge (b := 3) hi (by decide)) ⟨vp_in_nI hi (by decide), vp_in_nI hi (by decide), nm_e (nm_r (nI_1 i) (hn _ (ui_step (by omega) hI)))⟩
  · intro n i s hi hI hn
    exact br_f (nI_ge (b := 144) hi (by decide)) ⟨vp_in_nI hi (by decide), vp_in_nI hi (by decide), nm_e (nm_r (nI_1 i) (hn _ (ul_step (by omega) hI)))⟩
theorem rl_ext {ce ceY ce' ceY' : Nat → Int64} {rc un rq ta ac maY unY rqY rfY acY rc' un' rq' ta' ac' maY' unY' rqY' rfY' acY' : Nat → Int32} (h : rl_db ce rc un rq ta ac ceY maY unY rqY rfY acY)
    (a1 : ∀ i, i < 144 → ce' i = ce i) (a2 : ∀ t, t < 3 → rc' t = rc t) (a3 : ∀ c, c < 9 → un' c = vp_nar .boolean (un c) ∧ rq' c = vp_nar .boolean (rq c) ∧ ta' c = ta c ∧ ac' c = ac c)
    (b1 : ∀ i, i < 144 → ceY' i = ceY i) (b2 : ∀ t, t < 3 → maY' t = maY t) (b3 : ∀ c, c < 9 → unY' c = vp_nar .boolean (unY c) ∧ rqY' c = vp_nar .boolean (rqY c) ∧ rfY' c = rfY c ∧ acY' c = acY c) : rl_db ce' rc' un' rq' ta' ac' ceY' maY' unY' rqY' rfY' acY' := by
  obtain ⟨N, D, U, R, T, A, hx, hxk, hy, hyk, hK⟩ := h
  exact ⟨N, D, U, R, T, A, dx_ext hx a1 a2, dk_ext hxk a3, dy_ext hy b1 b2, dk_ext hyk b3, hK⟩
end
theorem i_vc_begin {k : Nat} {u : SX} {v : SY} (I : i_Rel k u v) (hk : k + 6 ≤ 3072) : wpX_begin (fun r u' => wpY_begin (fun r' v' => r' = r ∧ i_Rel (k + 6) u' v') v) u := by
  rcases u with ⟨toX, soX, coX, ouX, kyX, moX, diX, rrX, rwX, ceX, rcX, unX, rqX, taX, acX, sceX, srcX, sunX, srqX, staX, sacX, stX, cfX, cpX, chX, csX, okX, ocX, koX, kfX, cbX, mkX, fvX, ovX, rsX, rtX⟩
  rcases v with ⟨opY, soY, coY, ouY, kyY, liY, diY, cmY, rrY, wiY, ceY, oceY, bceY, maY, omaY, bmaY, unY, rqY, bunY, brqY, rfY, acY, brfY, bacY, srY, csY, ccY, cpY, cwY, okY, osY, ocY, koY, ciY, kfY, cbY, goY, rsY, geY, keY⟩
  obtain ⟨hdb, hsv, hdr, hli, hre⟩ := I
  have e := hsv.1
  refine br_c (fun z => xm_save (fun ce rc un rq ta ac a1 a2 a3 => ?_)) (fun z => ?_)
  · exact yv_begin (fun w => absurd (e ▸ z) w) (fun _ ce' ma' un' rq' rf' ac' b1 b2 b3 => ⟨rfl, hdb, ⟨rfl, Or.inr ⟨rfl, rl_ext hdb a1 a2 a3 b1 b2 b3⟩⟩, hdr, hli, hre⟩)
  · exact yv_begin (fun w => ⟨rfl, hdb, hsv, hdr, hli, hre⟩) (fun w => absurd (e.trans w) z)
theorem i_vc_end {k : Nat} {u : SX} {v : SY} (I : i_Rel k u v) (hk : k + 6 ≤ 3072) (v1 : Int32) : wpX_end (fun r u' => wpY_end (fun r' v' => r' = r ∧ i_Rel (k + 6) u' v') v (lw_bz v1)) u (lw_bz v1) := by
  rcases u with ⟨toX, soX, coX, ouX, kyX, moX, diX, rrX, rwX, ceX, rcX, unX, rqX, taX, acX, sceX, srcX, sunX, srqX, staX, sacX, stX, cfX, cpX, chX, csX, okX, ocX, koX, kfX, cbX, mkX, fvX, ovX, rsX, rtX⟩
  rcases v with ⟨opY, soY, coY, ouY, kyY, liY, diY, cmY, rrY, wiY, ceY, oceY, bceY, maY, omaY, bmaY, unY, rqY, bunY, brqY, rfY, acY, brfY, bacY, srY, csY, ccY, cpY, cwY, okY, osY, ocY, koY, ciY, kfY, cbY, goY, rsY, geY, keY⟩
  obtain ⟨hdb, hsv, hdr, hli, hre⟩ := I
  obtain ⟨e, hs⟩ := hsv
  refine br_c (fun z => ?_) (fun z => br_c (fun hp => xm_restore (fun ce rc un rq ta ac a1 a2 a3 => ?_)) (fun hp => ?_))
  · exact yv_end (fun w => ⟨rfl, hdb, ⟨e, hs⟩, hdr, hli, hre⟩) (fun w => absurd (e ▸ z) w) (fun w => absurd (e ▸ z) w)
  · have hs : rl_db sceX srcX sunX srqX staX sacX bceY bmaY bunY brqY brfY bacY := by
      rcases hs with hs | hs
      · exact absurd hs z
      · exact hs.2
    exact yv_end (fun w => absurd (e.trans w) z) (fun _ w => absurd hp w) (fun _ _ ce' ma' un' rq' rf' ac' b1 b2 b3 => ⟨rfl, rl_ext hs a1 a2 a3 b1 b2 b3, ⟨rfl, Or.inl rfl⟩, hdr, hli, hre⟩)
  · exact yv_end (fun w => absurd (e.trans w) z) (fun _ w => ⟨rfl, hdb, ⟨rfl, Or.inl rfl⟩, hdr, hli, hre⟩) (fun _ w => absurd w hp)
theorem i_vc0 : wpX_init (fun u => wpY_init (fun v => i_Rel 0 u v)) := by
  refine loop_0 (fun n i s => wX_init_263 _ 0 0 0 0 0 60 0 0 0 n (nI i) (fun _ => 0) (fun _ => 0) (fun _ => 0) (fun _ => 0) s (fun _ => 0) (fun _ => 0) (fun _ => 0) (fun _ => 0) (fun _ => 0) (fun _ => 0) (fun _ => 0) (fun _ => 0) (fun _ => 0) (fun _ => 0) (fun _ => 0) (fun _ => 0) (fun _ => 0) (fun _ => 0) (fun _ => 0) (fun _ => 0) (fun _ => 0) (fun _ => 0) (fun _ => 0) (fun _ => 0) (fun _ => 0) (fun _ => 0)) (fun i s => ∀ j, j < i → s j = -1) 9 (fun _ => 0) lt_0 ?_ ?_
  · intro n s hI
    refine br_t (by decide) ?_
    refine loop_0 (fun n i s' => wY_init_250 _ 0 0 0 0 0 60 0 0 0 0 n (nI i) (fun _ => 0) (fun _ => 0) (fun _ => 0) (fun _ => 0) (fun _ => 0) (fun _ => 0) (fun _ => 0) (fun _ => 0) (fun _ => 0) (fun _ => 0) s' (fun _ => 0) (fun _ => 0) (fun _ => 0) (fun _ => 0) (fun _ => 0) (fun _ => 0) (fun _ => 0) (fun _ => 0) (fun _ => 0) (fun _ => 0) (fun _ => 0) (fun _ => 0) (fun _ => 0) (fun _ => 0) (fun _ => 0) (fun _ => 0) (fun _ => 0) (fun _ => 0) (fun _ => 0)) (fun i s' => ∀ j, j < i → s' j = -1) 9 (fun _ => 0) lt_0 ?_ ?_
    · intro n s' hI'
      refine br_t (by decide) ?_
      refine ⟨⟨fun _ => 0, fun _ _ => 0, fun _ => false, fun _ => false, fun _ => 9, fun _ => 0, ⟨fun t ht => ⟨rfl, Nat.zero_le _⟩, fun c r _ hr => absurd hr (Nat.not_lt_zero _)⟩, fun c hc => ⟨rfl, rfl, hI c hc, rfl⟩, ⟨fun t ht => ⟨rfl, Nat.zero_le _⟩, fun c r _ hr => absurd hr (Nat.not_lt_zero _)⟩, fun c hc => ⟨rfl, rfl, hI' c hc, rfl⟩, ⟨fun c hc => ⟨Nat.zero_le _, fun z => absurd z (Nat.lt_irrefl 9), fun z => absurd z Bool.false_ne_true, fun z => absurd z Bool.false_ne_true, fun z => absurd z (Nat.lt_irrefl 9)⟩, fun c r _ hr => absurd hr (Nat.not_lt_zero _)⟩⟩, ⟨rfl, Or.inl rfl⟩, ?_, ⟨rfl, rfl, ⟨60, by decide, rfl⟩, false, rfl⟩, 0, by decide, rfl, rfl, Or.inl rfl⟩
      exact ⟨0, 0, 0, 0, fun _ => 0, fun _ => 0, fun _ => 0, fun _ => 0, fun _ => false, fun _ => 0, fun _ => 0, fun _ => 0, fun _ => 0, fun _ => 0, ⟨rfl, rfl, rfl, rfl⟩, ⟨rfl, rfl, rfl, rfl⟩, lt_0, lt_0, lt_0, lt_0, ⟨by decide, by decide, by decide, by decide⟩, lt_0, lt_0, lt_0, lt_0⟩
    · intro n i s' hi hI' hn
      refine br_f (nI_ge (b := 9) hi (by decide)) ⟨vp_in_nI hi (by decide), nm_e (nm_r (nI_1 i) (hn _ ?_))⟩
      rw [nI_clamp (by omega)]
      exact lt_s (fun j hj => by rw [pk_un (by omega)]; exact hI' j hj) pk_us
  · intro n i s hi hI hn
    refine br_f (nI_ge (b := 9) hi (by decide)) ⟨vp_in_nI hi (by decide), nm_e (nm_r (nI_1 i) (hn _ ?_))⟩
    rw [nI_clamp (by omega)]
    exact lt_s (fun j hj => by rw [pk_un (by omega)]; exact hI j hj) pk_us
