theorem i_vc_erase {k : Nat} {u : SX} {v : SY} (I : i_Rel k u v) (hk : k + 6 ≤ 3072) : wpX_erase (fun r u' => wpY_erase (fun r' v' => r' = r ∧ i_Rel (k + 6) u' v') v) u := by
  rcases u with ⟨toX, soX, coX, ouX, kyX, moX, diX, rrX, rwX, ceX, rcX, unX, rqX, taX, acX, sceX, srcX, sunX, srqX, staX, sacX, stX, cfX, cpX, chX, csX, okX, ocX, koX, kfX, cbX, mkX, fvX, ovX, rsX, rtX⟩
  rcases v with ⟨opY, soY, coY, ouY, kyY, liY, diY, cmY, rrY, wiY, ceY, oceY, bceY, maY, omaY, bmaY, unY, rqY, bunY, brqY, rfY, acY, brfY, bacY, srY, csY, ccY, cpY, cwY, okY, osY, ocY, koY, ciY, kfY, cbY, goY, rsY, geY, keY⟩
  obtain ⟨hdb, hsv, hdr, hli, hre⟩ := I
  have keep := hdb
  have keepd := hdr
  obtain ⟨N, D, U, R, T, A, hx, hxk, hy, hyk, hK⟩ := hdb
  obtain ⟨ns, nc, no, nk, S, CS, CC, CO, CI, CW, OK, OS, OC, KO, ⟨rfl, rfl, rfl, rfl⟩, ⟨rfl, rfl, rfl, rfl⟩, hS, hc, ho, hq, hKd⟩ := hdr
  have hck : ck_c ns nc S CS CC CO CI CW := ⟨hKd.1.1, hKd.1.2.1, hKd.2.1, hKd.2.2.1⟩
  have hcx : cx_c nc CS CC CO CI CW cfX cpX chX csX := fun k hk => (hc k hk).1
  have hcy : cy_c nc CS CC CO CI CW csY ccY cpY ciY cwY := fun k hk => (hc k hk).2
  have hst : ∀ s, s < ns → stX s = nI (S s) := fun s hs => (hS s hs).1
  have hsr : ∀ s, s < ns → srY s = nI (S s) := fun s hs => (hS s hs).2
  have h3 := hKd.1.1
  have hA : ∀ c, c < 9 → A c ≤ 2 := fun c hc => (hK.1 c hc).1
  have hu : ∀ c, c < 9 → T c < 9 → fi_u N D (T c) := fun c hc ht => (hK.1 (T c) ht).2.2.1 ((hK.1 c hc).2.1 ht).2
  have h16 : ∀ t, t < 3 → N t ≤ 16 := fun t ht => (hx.1 t ht).2
  refine pk_eq ns 1 (fun e => ?_) (fun e => yv_erase hy hyk hA hck hsr hcy (fun _ => ⟨rfl, keep, hsv, keepd, hli, hre⟩) (fun z => absurd z e) (fun z => absurd z e))
  subst e
  refine xm_mark hx hck hst hcx (fun cb mk hm => xm_cascade hx hxk hm hu hA (fun mk1 M' hm' sn' hcl' => ?_))
  have hm1 := mc_a sn' hcl' hm'
  have hcl := mc_c h16 sn' hcl'
  generalize hM : mc_b N D T A (mh_B (S 0) (N (S 0)) (fun r => co_h D S (ro_w (256 * r)) CS CC CO CI CW nc)) = M at hm1 hcl
  refine xm_erViol hx hxk hm1 hu hA (fun c i hc' hi' hev => br_f (by decide) ?_) (fun hno => br_t rfl ?_)
  · refine yv_erase hy hyk hA hck hsr hcy (fun z => absurd rfl z) (fun _ Q eQ clQ f => ?_) (fun _ Q eQ clQ f ce ma oce oma ge ke hy' => ?_)
    · rw [hM] at eQ
      subst eQ
      exact absurd f (er_nofit hK hcl hc' hi' hev)
    · exact ⟨rfl, ⟨N, D, U, R, T, A, hx, hxk, hy', hyk, hK⟩, hsv, keepd, hli, hre⟩
  · refine xm_clear hx hxk hm1 hu hA (fun ce1 h1 => xm_drop hx.1 hm1 h1 (fun ce2 rc2 hx2 => ?_))
    have hfit := er_fit hK hcl hno
    refine yv_erase hy hyk hA hck hsr hcy (fun z => absurd rfl z) (fun _ Q eQ clQ f ce ma oce oma ge ke hy' => ?_) (fun _ Q eQ clQ f => ?_)
    · rw [hM] at eQ
      subst eQ
      exact ⟨rfl, ⟨_, _, U, R, T, A, hx2, hxk, hy', hyk, er_K hK f⟩, hsv, keepd, hli, hre⟩
    · rw [hM] at eQ
      subst eQ
      exact absurd hfit f
