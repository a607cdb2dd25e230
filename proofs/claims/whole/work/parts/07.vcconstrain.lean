theorem i_vc_constrain {k : Nat} {u : SX} {v : SY} (I : i_Rel k u v) (hk : k + 6 ≤ 3072) (v1 : Int32) (v2 : Int32) (v3 : Int32) (v4 : Int32) (v5 : Int32) : wpX_constrain (fun r u' => wpY_constrain (fun r' v' => r' = r ∧ i_Rel (k + 6) u' v') v v1 v2 v3 v4 v5) u v1 v2 v3 v4 v5 := by
  rcases u with ⟨toX, soX, coX, ouX, kyX, moX, diX, rrX, rwX, ceX, rcX, unX, rqX, taX, acX, sceX, srcX, sunX, srqX, staX, sacX, stX, cfX, cpX, chX, csX, okX, ocX, koX, kfX, cbX, mkX, fvX, ovX, rsX, rtX⟩
  rcases v with ⟨opY, soY, coY, ouY, kyY, liY, diY, cmY, rrY, wiY, ceY, oceY, bceY, maY, omaY, bmaY, unY, rqY, bunY, brqY, rfY, acY, brfY, bacY, srY, csY, ccY, cpY, cwY, okY, osY, ocY, koY, ciY, kfY, cbY, goY, rsY, geY, keY⟩
  obtain ⟨hdb, hsv, hdr, hli, hre⟩ := I
  have keep := hdb
  obtain ⟨N, D, U, R, T, A, hx, hxk, hy, hyk, hK⟩ := hdb
  have bad : ((∀ j, j < 3 → v1 ≠ nI j) ∨ (∀ j, j < 3 → v2 ≠ nI j) ∨ (∀ j, j < 6 → v3 ≠ nI j)) → wpY_constrain (fun r' v' => r' = -1 ∧ i_Rel (k + 6) (toX, soX, coX, ouX, kyX, moX, diX, rrX, rwX, ceX, rcX, unX, rqX, taX, acX, sceX, srcX, sunX, srqX, staX, sacX, stX, cfX, cpX, chX, csX, okX, ocX, koX, kfX, cbX, mkX, fvX, ovX, rsX, rtX) v') (opY, soY, coY, ouY, kyY, liY, diY, cmY, rrY, wiY, ceY, oceY, bceY, maY, omaY, bmaY, unY, rqY, bunY, brqY, rfY, acY, brfY, bacY, srY, csY, ccY, cpY, cwY, okY, osY, ocY, koY, ciY, kfY, cbY, goY, rsY, geY, keY) v1 v2 v3 v4 v5 := by
    intro hb
    unfold wpY_constrain
    dsimp only
    refine ym_within (n := 3) (by decide) (fun h => br_t rfl ⟨rfl, keep, hsv, hdr, hli, hre⟩) (fun j1 h1 e1 => br_f (by decide) (ym_within (n := 3) (by decide) (fun h => br_t rfl ⟨rfl, keep, hsv, hdr, hli, hre⟩) (fun j2 h2 e2 => br_f (by decide) (ym_within (n := 6) (by decide) (fun h => br_t rfl ⟨rfl, keep, hsv, hdr, hli, hre⟩) (fun j3 h3 e3 => ?_)))))
    rcases hb with z | z | z
    · exact rg_no z h1 e1
    · exact rg_no z h2 e2
    · exact rg_no z h3 e3
  unfold wpX_constrain
  dsimp only
  refine xm_out v1 (fun hout => br_f (by decide) (bad (Or.inl hout))) (fun j1 h1 e1 => br_t rfl (xm_out v2 (fun hout => br_f (by decide) (bad (Or.inr (Or.inl hout)))) (fun j2 h2 e2 => br_t rfl ?_)))
  rcases rg_c v3 6 (by decide) with hout | ⟨j3, h3, e3⟩
  · refine nm_e (br_c (fun _ => bad (Or.inr (Or.inr hout))) (fun hp => br_c (fun _ => bad (Or.inr (Or.inr hout))) (fun h5 => ?_)))
    obtain ⟨j, hj, e⟩ := nI_of2 (M := 5) (n := 5) (by decide) hp (Int32.not_lt.mp h5)
    exact rg_no hout (j := j) (by omega) e
  subst e1 e2 e3
  refine nm_r (nz_3 j1 j2) ?_
  have hc : 3 * j1 + j2 < 9 := by omega
  refine br_f (nI_pos (by omega)) (br_f (nI_nlt (a := 5) (b := j3) (by omega) (by decide) : ¬ (5 : Int32) < nI j3) ?_)
  -- the outcomes on Y's side
  have rOK : ∀ {U' R' : Nat → Bool} {T' A' : Nat → Nat} {un rq ta ac unY' rqY' rfY' acY' : Nat → Int32}, db_k U' R' T' A' un rq ta ac → db_k U' R' T' A' unY' rqY' rfY' acY' → db_K N D U' R' T' A' → ∀ r : Int32, r = r ∧ i_Rel (k + 6) (toX, soX, coX, ouX, kyX, moX, diX, rrX, rwX, ceX, rcX, un, rq, ta, ac, sceX, srcX, sunX, srqX, staX, sacX, stX, cfX, cpX, chX, csX, okX, ocX, koX, kfX, cbX, mkX, fvX, ovX, rsX, rtX) (opY, soY, coY, ouY, kyY, liY, diY, cmY, rrY, wiY, ceY, oceY, bceY, maY, omaY, bmaY, unY', rqY', bunY, brqY, rfY', acY', brfY, bacY, srY, csY, ccY, cpY, cwY, okY, osY, ocY, koY, ciY, kfY, cbY, goY, rsY, geY, keY) :=
    fun a b c r => ⟨rfl, ⟨N, D, _, _, _, _, hx, a, hy, b, c⟩, hsv, hdr, hli, hre⟩
  by_cases k0 : j3 = 0
  · subst k0
    refine br_t rfl (xm_makeUnique hx hc (fun hu => ?_) (fun hu => ?_))
    · exact ym_con hy hyk hK h1 h2 h3 (fun _ _ => rOK (dk_un _ hc hxk) (dk_un _ hc hyk) (dK_un hK hu) 0) (fun z => absurd z (by decide)) (fun z => absurd hu (z rfl)) (fun z => absurd z (by decide)) (fun z => absurd z (by decide)) (fun z => absurd z (by decide)) (fun z => absurd z (by decide))
    · exact ym_con hy hyk hK h1 h2 h3 (fun _ z => absurd z hu) (fun z => absurd z (by decide)) (fun _ _ _ _ _ _ _ _ b => rOK hxk b hK _) (fun z => absurd z (by decide)) (fun z => absurd z (by decide)) (fun z => absurd z (by decide)) (fun z => absurd z (by decide))
  refine br_f (nI_ne0 (by omega) (by omega)) ?_
  by_cases k1 : j3 = 1
  · subst k1
    refine br_t rfl (xm_makeRequired hx hc (fun hu => ?_) (fun hu => ?_))
    · exact ym_con hy hyk hK h1 h2 h3 (fun z => absurd z (by decide)) (fun _ _ => rOK (dk_rq _ hc hxk) (dk_rq _ hc hyk) (dK_rq hK hu) 0) (fun _ z => absurd hu (z rfl)) (fun z => absurd z (by decide)) (fun z => absurd z (by decide)) (fun z => absurd z (by decide)) (fun z => absurd z (by decide))
    · exact ym_con hy hyk hK h1 h2 h3 (fun z => absurd z (by decide)) (fun _ z => absurd z hu) (fun _ _ _ _ _ _ _ _ b => rOK hxk b hK _) (fun z => absurd z (by decide)) (fun z => absurd z (by decide)) (fun z => absurd z (by decide)) (fun z => absurd z (by decide))
  refine br_f (fun z => k1 ((nI_eq (b := 1) (by omega) (by decide)).mp z)) ?_
  by_cases k5 : j3 = 5
  · subst k5
    refine br_f (by decide) (br_f (by decide) (br_f (by decide) (br_t rfl (xm_makeFree hxk hc (fun hu => ?_) (fun hu => ?_)))))
    · exact ym_con hy hyk hK h1 h2 h3 (fun z => absurd z (by decide)) (fun z => absurd z (by decide)) (fun _ _ z => absurd rfl z) (fun _ z => absurd rfl z) (fun _ z => absurd rfl z) (fun _ _ => rOK hxk hyk hK _) (fun _ z => absurd hu (fun ⟨q, hq, e⟩ => z q hq e))
    · exact ym_con hy hyk hK h1 h2 h3 (fun z => absurd z (by decide)) (fun z => absurd z (by decide)) (fun _ _ z => absurd rfl z) (fun _ z => absurd rfl z) (fun _ z => absurd rfl z) (fun _ ⟨q, hq, e⟩ => absurd e (hu q hq)) (fun _ _ => rOK (dk_fr _ hc hxk) (dk_fr _ hc hyk) (dK_fr hK hu) _)
  have h1j : 1 < j3 := by omega
  have main : wX_constrain_78 (fun r u' => wpY_constrain (fun r' v' => r' = r ∧ i_Rel (k + 6) u' v') (opY, soY, coY, ouY, kyY, liY, diY, cmY, rrY, wiY, ceY, oceY, bceY, maY, omaY, bmaY, unY, rqY, bunY, brqY, rfY, acY, brfY, bacY, srY, csY, ccY, cpY, cwY, okY, osY, ocY, koY, ciY, kfY, cbY, goY, rsY, geY, keY) (nI j1) (nI j2) (nI j3) v4 v5) (nI j3) v4 v5 (nI (3 * j1 + j2)) toX soX coX ouX kyX moX diX rrX rwX ceX rcX unX rqX taX acX sceX srcX sunX srqX staX sacX stX cfX cpX chX csX okX ocX koX kfX cbX mkX fvX ovX rsX rtX := by
    unfold wX_constrain_78
    refine xm_out v4 (fun hout => br_f (by decide) ?_) (fun j4 h4 e4 => br_t rfl (xm_out v5 (fun hout => br_f (by decide) ?_) (fun j5 h5 e5 => br_t rfl ?_)))
    · exact ym_con hy hyk hK h1 h2 h3 (fun z => absurd z k0) (fun z => absurd z k1) (fun _ _ _ z => by obtain ⟨j4, j5, h4, h5, e4, _⟩ := z h1j; exact rg_no hout h4 e4) (fun _ _ _ _ h4 _ e4 => rg_no hout h4 e4) (fun _ _ _ => rOK hxk hyk hK _) (fun z => absurd z k5) (fun z => absurd z k5)
    · exact ym_con hy hyk hK h1 h2 h3 (fun z => absurd z k0) (fun z => absurd z k1) (fun _ _ _ z => by obtain ⟨j4, j5, h4, h5, e4, e5, _⟩ := z h1j; exact rg_no hout h5 e5) (fun _ _ _ _ _ h5 _ e5 => rg_no hout h5 e5) (fun _ _ _ => rOK hxk hyk hK _) (fun z => absurd z k5) (fun z => absurd z k5)
    · subst e4 e5
      have un : ∀ {a b : Nat}, a < 3 → b < 3 → nI j4 = nI a → nI j5 = nI b → a = j4 ∧ b = j5 := by
        intro a b ha hb ea eb
        rw [nI_eq (by omega) (by omega)] at ea eb
        exact ⟨ea.symm, eb.symm⟩
      rw [nz_3, show nI j3 - 2 = nI (j3 - 2) from pk_sub (b := 2) h1j]
      refine xm_makeReference hx hxk hc (by omega) (fun hb => ?_) (fun hne hu hs => ?_) (fun hne hu hs => ?_)
      · refine ym_con hy hyk hK h1 h2 h3 (fun z => absurd z k0) (fun z => absurd z k1) (fun _ _ _ z => ?_) (fun _ _ a b ha hb' ea eb hne hu _ => ?_) (fun _ _ _ => rOK hxk hyk hK _) (fun z => absurd z k5) (fun z => absurd z k5)
        · obtain ⟨a, b, ha, hb', ea, eb, hne, hu, _⟩ := z h1j
          obtain ⟨rfl, rfl⟩ := un ha hb' ea eb
          rcases hb with z | z
          · exact absurd z hne
          · rw [hu] at z
            exact absurd z (by decide)
        · obtain ⟨rfl, rfl⟩ := un ha hb' ea eb
          rcases hb with z | z
          · exact absurd z hne
          · rw [hu] at z
            exact absurd z (by decide)
      · refine ym_con hy hyk hK h1 h2 h3 (fun z => absurd z k0) (fun z => absurd z k1) (fun _ _ _ z => ?_) (fun _ _ a b ha hb' ea eb hne hu _ => ?_) (fun _ _ z => ?_) (fun z => absurd z k5) (fun z => absurd z k5)
        · obtain ⟨a, b, ha, hb', ea, eb, _, _, hs'⟩ := z h1j
          obtain ⟨rfl, rfl⟩ := un ha hb' ea eb
          exact absurd hs hs'
        · obtain ⟨rfl, rfl⟩ := un ha hb' ea eb
          exact rOK (dk_ta _ _ _ hc (by omega) hxk) (dk_ta _ _ _ hc (by omega) hyk) (dK_ta hK (by omega) hne hu hs) _
        · rcases z with z | z | ⟨a, b, ha, hb', ea, eb, z⟩
          · exact rg_no z h4 rfl
          · exact rg_no z h5 rfl
          · obtain ⟨rfl, rfl⟩ := un ha hb' ea eb
            rcases z with z | z
            · exact absurd z hne
            · rw [hu] at z
              exact absurd z (by decide)
      · refine ym_con hy hyk hK h1 h2 h3 (fun z => absurd z k0) (fun z => absurd z k1) (fun _ _ _ _ _ _ _ _ b => rOK hxk b hK _) (fun _ _ a b ha hb' ea eb hne hu hs' => ?_) (fun _ _ z => ?_) (fun z => absurd z k5) (fun z => absurd z k5)
        · obtain ⟨rfl, rfl⟩ := un ha hb' ea eb
          exact absurd hs' hs
        · rcases z with z | z | ⟨a, b, ha, hb', ea, eb, z⟩
          · exact rg_no z h4 rfl
          · exact rg_no z h5 rfl
          · obtain ⟨rfl, rfl⟩ := un ha hb' ea eb
            rcases z with z | z
            · exact absurd z hne
            · rw [hu] at z
              exact absurd z (by decide)
  by_cases k2 : j3 = 2
  · subst k2
    exact br_t rfl main
  refine br_f (fun z => k2 ((nI_eq (b := 2) (by omega) (by decide)).mp z)) ?_
  by_cases k3 : j3 = 3
  · subst k3
    exact br_t rfl main
  refine br_f (fun z => k3 ((nI_eq (b := 3) (by omega) (by decide)).mp z)) ?_
  have k4 : j3 = 4 := by omega
  subst k4
  exact br_t rfl main
