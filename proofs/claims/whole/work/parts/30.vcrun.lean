section
variable {toX soX coX ouX kyX moX diX rrX rwX : Int32} {ceX sceX fvX ovX rsX : Nat → Int64} {rcX unX rqX taX acX srcX sunX srqX staX sacX stX cfX cpX chX csX okX ocX koX kfX cbX mkX rtX : Nat → Int32} {N : Nat → Nat} {D : Nat → Nat → Int64} {ns nc no nk lim : Nat} {S CS CC CO OK OS OC KO : Nat → Nat} {CI : Nat → Bool} {CW : Nat → Int32} {KF : Nat → Int32}
theorem xv_run {post : Int32 → SX → Prop} (hC : db_xc N D ceX rcX) (hck : ck_c ns nc S CS CC CO CI CW) (hst : ∀ s, s < ns → stX s = nI (S s)) (hcx : cx_c nc CS CC CO CI CW cfX cpX chX csX) (hk4 : no ≤ 4) (hk : 1 ≤ ns → ko_c ns no OK OS OC) (ho : kx_o no OK OS OC okX ocX) (hl : lim ≤ 60) (h2 : nk ≤ 2) (hko : ∀ k, k < nk → koX k = nI (KO k) ∧ KO k < no) (hkf : ∀ k, k < nk → kfX k = KF k) {di : Bool} (hrng : ∀ c r, c < 9 → r < N (c / 3) → D c r = nu_l ∨ ∃ z : Int32, D c r = z.toInt64)
    {hb : Nat → Bool} (ehb : hb = hq_b N D ns nc S CS CC CO CI CW) {jo : Bool} {g0 : Nat} (ejo : jo = (decide (cn_b (fun k => decide (OK k = 0)) no < no) || di)) (eg0 : g0 = if cn_b (fun k => decide (OK k = 0)) no = 0 then 1 else 0)
    (hbad : (ns = 0 ∨ no = 0) → post (-1) (toX, nI ns, nI nc, nI no, nI nk, nI lim, bo_i di, 0, rwX, ceX, rcX, unX, rqX, taX, acX, sceX, srcX, sunX, srqX, staX, sacX, stX, cfX, cpX, chX, csX, okX, ocX, koX, kfX, cbX, mkX, fvX, ovX, rsX, rtX))
    (h1 : 1 ≤ ns → 1 ≤ no → ∀ n, n = (gr_s (al_b no OK (ou_v D S OS OC)) jo g0 (se_l hb 4096) (cn_b hb 4096)).1 → n ≤ 60 → ∀ cb ov rs rt, re_q n no rs (so_a nk KO KF (ru_r OK OS (ou_v D S OS OC) (ou_w D S OS OC) (se_l hb 4096) (gr_g (al_b no OK (ou_v D S OS OC)) jo g0 (se_l hb 4096)) (gr_s (al_b no OK (ou_v D S OS OC)) jo g0 (se_l hb 4096) (cn_b hb 4096)).2 (cn_b hb 4096)) n) → post (nI (ru_n n lim)) (toX, nI ns, nI nc, nI no, nI nk, nI lim, bo_i di, nI (ru_n n lim), nI no, ceX, rcX, unX, rqX, taX, acX, sceX, srcX, sunX, srqX, staX, sacX, stX, cfX, cpX, chX, csX, okX, ocX, koX, kfX, cb, mkX, fvX, ov, rs, rt))
    (h0 : 1 ≤ ns → 1 ≤ no → 60 < (gr_s (al_b no OK (ou_v D S OS OC)) jo g0 (se_l hb 4096) (cn_b hb 4096)).1 → ∀ cb ov rs rt, post (-4) (toX, nI ns, nI nc, nI no, nI nk, nI lim, bo_i di, 0, rwX, ceX, rcX, unX, rqX, taX, acX, sceX, srcX, sunX, srqX, staX, sacX, stX, cfX, cpX, chX, csX, okX, ocX, koX, kfX, cb, mkX, fvX, ov, rs, rt)) :
    wpX_run post (toX, nI ns, nI nc, nI no, nI nk, nI lim, bo_i di, rrX, rwX, ceX, rcX, unX, rqX, taX, acX, sceX, srcX, sunX, srqX, staX, sacX, stX, cfX, cpX, chX, csX, okX, ocX, koX, kfX, cbX, mkX, fvX, ovX, rsX, rtX) := by
  have h3 := hck.1
  refine pk_eq ns 0 (fun z => hbad (Or.inl z)) (fun zs => pk_eq no 0 (fun z => hbad (Or.inr z)) (fun zo => ?_))
  have h1s : 1 ≤ ns := by have := hck.1; omega
  have h1o : 1 ≤ no := by omega
  have hk := hk h1s
  have h1 := h1 h1s h1o _ rfl
  have h0 := h0 h1s h1o
  -- from a state that has what the place 0 asks
  have main : ∀ rs rt, xq_I N D S OK OS OC no jo g0 hb 0 (nI g0, cbX, ovX, rs, rt) → wX_run_34 post (nI (cn_b (fun k => decide (OK k = 0)) no)) toX (nI ns) (nI nc) (nI no) (nI nk) (nI lim) (bo_i di) (nI g0) rwX ceX rcX unX rqX taX acX sceX srcX sunX srqX staX sacX stX cfX cpX chX csX okX ocX koX kfX cbX mkX fvX ovX rs rt := by
    intro rs rt hstart
    have go : wX_run_55 post (bo_i jo) toX (nI ns) (nI nc) (nI no) (nI nk) (nI lim) (bo_i di) (nI g0) rwX ceX rcX unX rqX taX acX sceX srcX sunX srqX staX sacX stX cfX cpX chX csX okX ocX koX kfX cbX mkX fvX ovX rs rt := by
      unfold wX_run_55
      refine xm_combs hC hck hst hcx hk ho hrng ehb hstart (fun hle cb ov rs' rt' hI => br_f (by decide) ?_) (fun hgt rr cb ov rs' rt' => br_t rfl (h0 hgt cb ov rs' rt'))
      have h1 := h1 hle
      unfold rx_I at hI
      generalize gr_s (al_b no OK (ou_v D S OS OC)) jo g0 (se_l hb 4096) (cn_b hb 4096) = sM at *
      refine xm_order hle hk4 h2 hko hkf (r := ru_r OK OS (ou_v D S OS OC) (ou_w D S OS OC) (se_l hb 4096) (gr_g (al_b no OK (ou_v D S OS OC)) jo g0 (se_l hb 4096)) sM.2 (cn_b hb 4096)) (fun g k hg hk' => ?_) (fun rs2 hr2 => ?_)
      · obtain ⟨i1, i2, i3⟩ := hI g k hg hk'
        unfold ru_r
        by_cases e0 : OK k = 0
        · rw [if_pos e0]
          exact i1 e0
        · rw [if_neg e0]
          exact i2 e0
      · have h1 := h1 cb ov rs2 rt' hr2
        refine pk_le sM.1 lim (fun w => ?_) (fun w => ?_)
        · rw [show ru_n sM.1 lim = sM.1 from if_pos w] at h1
          exact h1
        · rw [show ru_n sM.1 lim = lim from if_neg (by omega)] at h1
          exact h1
    have hle := cn_le (fun k => decide (OK k = 0)) no
    refine pk_lt (cn_b (fun k => decide (OK k = 0)) no) no (fun z => ?_) (fun z => ?_)
    · have e : jo = true := by
        rw [ejo, decide_eq_true z, Bool.true_or]
      rw [e] at go
      exact go
    · have e : jo = di := by
        rw [ejo, decide_eq_false (by omega), Bool.false_or]
      rw [e] at go
      cases di with
      | false => exact br_t rfl go
      | true => exact br_f (by decide) go
  refine xm_count hk ho ?_
  refine pk_eq (cn_b (fun k => decide (OK k = 0)) no) 0 (fun z => ?_) (fun z => ?_) rfl rfl (by have := cn_le (fun k => decide (OK k = 0)) no; omega) (by decide)
  · rw [if_pos z] at eg0
    have hnone := pl_none.mp z
    refine xm_startRow (m := 0) hk ho (by decide) (fun rs rt a b => ?_)
    subst eg0
    refine main rs rt ⟨rfl, (by decide : (1 : Nat) ≤ 60), ?_⟩
    intro g k hg hk'
    have hg : g < 1 := hg
    have : g = 0 := by omega
    subst this
    obtain ⟨b1, b2⟩ := b k hk'
    refine ⟨fun e => absurd e (hnone k hk'), fun e => ?_, fun e => ?_⟩
    · show rs (4 * 0 + k) = _
      rw [b1]
      exact sr_rv (hk.2 k hk').1 e (fun i hi => absurd hi (Nat.not_lt_zero _))
    · show mi_m _ _ (rt (4 * 0 + k)) _
      rw [b2]
      exact mi_0 (fun i hi => absurd hi (Nat.not_lt_zero _))
  · rw [if_neg z] at eg0
    subst eg0
    exact main rsX rtX ⟨rfl, (by decide : (0 : Nat) ≤ 60), fun g k hg => absurd hg (Nat.not_lt_zero _)⟩
end
theorem i_vc_run {k : Nat} {u : SX} {v : SY} (I : i_Rel k u v) (hk : k + 6 ≤ 3072) : wpX_run (fun r u' => wpY_run (fun r' v' => r' = r ∧ i_Rel (k + 6) u' v') v) u := by
  rcases u with ⟨toX, soX, coX, ouX, kyX, moX, diX, rrX, rwX, ceX, rcX, unX, rqX, taX, acX, sceX, srcX, sunX, srqX, staX, sacX, stX, cfX, cpX, chX, csX, okX, ocX, koX, kfX, cbX, mkX, fvX, ovX, rsX, rtX⟩
  rcases v with ⟨opY, soY, coY, ouY, kyY, liY, diY, cmY, rrY, wiY, ceY, oceY, bceY, maY, omaY, bmaY, unY, rqY, bunY, brqY, rfY, acY, brfY, bacY, srY, csY, ccY, cpY, cwY, okY, osY, ocY, koY, ciY, kfY, cbY, goY, rsY, geY, keY⟩
  obtain ⟨hdb, hsv, hdr, hli, hre⟩ := I
  have keep := hdb
  have keepd := hdr
  obtain ⟨N, D, U, R, T, A, hx, hxk, hy, hyk, hK⟩ := hdb
  obtain ⟨ns, nc, no, nk, S, CS, CC, CO, CI, CW, OK, OS, OC, KO, ⟨rfl, rfl, rfl, rfl⟩, ⟨rfl, rfl, rfl, rfl⟩, hS, hc, ho, hq, hKd⟩ := hdr
  have keepl := hli
  obtain ⟨el, ed, ⟨lim, hlim, rfl⟩, di, rfl⟩ := hli
  subst el ed
  have hck : ck_c ns nc S CS CC CO CI CW := ⟨hKd.1.1, hKd.1.2.1, hKd.2.1, hKd.2.2.1⟩
  have hcx : cx_c nc CS CC CO CI CW cfX cpX chX csX := fun k hk => (hc k hk).1
  have hcy : cy_c nc CS CC CO CI CW csY ccY cpY ciY cwY := fun k hk => (hc k hk).2
  have hst : ∀ s, s < ns → stX s = nI (S s) := fun s hs => (hS s hs).1
  have hsr : ∀ s, s < ns → srY s = nI (S s) := fun s hs => (hS s hs).2
  have hox : kx_o no OK OS OC okX ocX := fun k hk => (ho k hk).1
  have hoy : ky_o no OK OS OC okY osY ocY := fun k hk => (ho k hk).2
  have hko : 1 ≤ ns → ko_c ns no OK OS OC := by
    intro h
    refine ⟨hKd.1.2.2.1, fun k hk => ?_⟩
    obtain ⟨a, b, c, d⟩ := hKd.2.2.2.1 k hk
    refine ⟨a, ?_, d⟩
    by_cases e : OK k = 1
    · rw [(c e).1]
      exact h
    · exact b e
  have hkx : ∀ k, k < nk → koX k = nI (KO k) ∧ KO k < no := fun k hk => ⟨(hq k hk).1, hKd.2.2.2.2 k hk⟩
  have hky : ∀ k, k < nk → koY k = nI (KO k) ∧ KO k < no := fun k hk => ⟨(hq k hk).2.1, hKd.2.2.2.2 k hk⟩
  have hkfy : ∀ k, k < nk → kfY k = kfX k := fun k hk => (hq k hk).2.2.symm
  have h4 := hKd.1.2.2.1
  have h2 := hKd.1.2.2.2
  refine xv_run (KF := kfX) hx hck hst hcx h4 hko hox hlim h2 hkx (fun _ _ => rfl) hK.2 rfl rfl rfl (fun hbad => ?_) (fun hs1 ho1 n en hle cb ov rs rt hr => ?_) (fun hs1 ho1 hgt cb ov rs rt => ?_)
  · refine yv_run (KF := kfX) hy hck hsr hcy h4 hko hoy hlim h2 hky hkfy rfl rfl rfl (fun _ => ⟨rfl, keep, hsv, keepd, keepl, 0, by decide, rfl, rfl, Or.inl rfl⟩) (fun a b => ?_) (fun a b => ?_)
    · rcases hbad with z | z <;> omega
    · rcases hbad with z | z <;> omega
  · refine yv_run (KF := kfX) hy hck hsr hcy h4 hko hoy hlim h2 hky hkfy rfl rfl rfl (fun z => ?_) (fun _ _ n' en' hle' cm cb' go rs' hr' => ?_) (fun _ _ hgt => ?_)
    · rcases z with z | z <;> omega
    · have e : n' = n := en'.trans en.symm
      subst e
      have hm : ru_n n' lim ≤ n' ∧ ru_n n' lim ≤ 60 := by
        unfold ru_n
        split <;> omega
      refine ⟨rfl, keep, hsv, keepd, keepl, ru_n n' lim, hm.2, rfl, rfl, Or.inr ⟨no, h4, rfl, rfl, fun i k hi hk' => ?_⟩⟩
      rw [hr i k (by omega) hk', hr' i k (by omega) hk']
    · rw [en] at hle
      omega
  · refine yv_run (KF := kfX) hy hck hsr hcy h4 hko hoy hlim h2 hky hkfy rfl rfl rfl (fun z => ?_) (fun _ _ n' en' hle' => ?_) (fun _ _ hgt' cm wi cb' go rs' => ⟨rfl, keep, hsv, keepd, keepl, 0, by decide, rfl, rfl, Or.inl rfl⟩)
    · rcases z with z | z <;> omega
    · rw [en'] at hle'
      omega
