/-- the least closed set of marks -/
noncomputable def mc_b (N : Nat → Nat) (D : Nat → Nat → Int64) (T A : Nat → Nat) (M0 : Nat → Bool) : Nat → Bool := fun x => @decide (∀ Q, cl_c N D T A Q → le_m M0 Q → Q x = true) (Classical.propDecidable _)
theorem mc_i {N : Nat → Nat} {D : Nat → Nat → Int64} {T A : Nat → Nat} {M0 : Nat → Bool} {x : Nat} : mc_b N D T A M0 x = true ↔ ∀ Q, cl_c N D T A Q → le_m M0 Q → Q x = true := @decide_eq_true_iff _ (Classical.propDecidable _)
theorem mc_e {N : Nat → Nat} {D : Nat → Nat → Int64} {T A : Nat → Nat} {M0 M : Nat → Bool} (sn : sn_d N D T A M0 M) (hcl : cl_c N D T A M) : ∀ x, x < 48 → M x = mc_b N D T A M0 x := fun x hx => Bool.eq_iff_iff.mpr (by
  rw [mc_i]
  exact ⟨fun h Q c l => sn.2 Q c l x hx h, fun h => h M hcl sn.1⟩)
theorem mc_c {N : Nat → Nat} {D : Nat → Nat → Int64} {T A : Nat → Nat} {M0 M : Nat → Bool} (h16 : ∀ t, t < 3 → N t ≤ 16) (sn : sn_d N D T A M0 M) (hcl : cl_c N D T A M) : cl_c N D T A (mc_b N D T A M0) := by
  intro c r hc hr ha hl
  have hN := h16 (c / 3) (by omega)
  rw [← mc_e sn hcl _ (by omega)]
  exact hcl c r hc hr ha (lo_mono h16 (fun x hx h => by rw [mc_e sn hcl x hx]; exact h) hl)
theorem mc_a {N : Nat → Nat} {D : Nat → Nat → Int64} {T A : Nat → Nat} {M0 M : Nat → Bool} (sn : sn_d N D T A M0 M) (hcl : cl_c N D T A M) {f : Nat → Int32} (h : ∀ x, x < 48 → f x = bo_i (M x)) : ∀ x, x < 48 → f x = bo_i (mc_b N D T A M0 x) := fun x hx => (h x hx).trans (congrArg bo_i (mc_e sn hcl x hx))
section
variable {toX soX coX ouX kyX moX diX rrX rwX : Int32} {ceX sceX fvX ovX rsX : Nat → Int64} {rcX unX rqX taX acX srcX sunX srqX staX sacX stX cfX cpX chX csX okX ocX koX kfX cbX mkX rtX : Nat → Int32} {opY soY coY ouY kyY liY diY cmY rrY wiY : Int32} {ceY oceY bceY rsY : Nat → Int64} {maY omaY bmaY unY rqY bunY brqY rfY acY brfY bacY srY csY ccY cpY cwY okY osY ocY koY ciY kfY cbY goY geY keY : Nat → Int32} {N : Nat → Nat} {D : Nat → Nat → Int64} {U R : Nat → Bool} {T A : Nat → Nat} {nc : Nat} {S CS CC CO : Nat → Nat} {CI : Nat → Bool} {CW : Nat → Int32}
theorem yv_erase {post : Int32 → SY → Prop} (hC : db_yc N D ceY maY) (hkk : db_k U R T A unY rqY rfY acY) (hA : ∀ c, c < 9 → A c ≤ 2) {ns : Nat} (hk : ck_c ns nc S CS CC CO CI CW) (hsr : ∀ s, s < ns → srY s = nI (S s)) (hc : cy_c nc CS CC CO CI CW csY ccY cpY ciY cwY)
    (hb : ns ≠ 1 → post (-1) (opY, nI ns, nI nc, ouY, kyY, liY, diY, cmY, rrY, wiY, ceY, oceY, bceY, maY, omaY, bmaY, unY, rqY, bunY, brqY, rfY, acY, brfY, bacY, srY, csY, ccY, cpY, cwY, okY, osY, ocY, koY, ciY, kfY, cbY, goY, rsY, geY, keY))
    (hi : ns = 1 → ∀ M, M = mc_b N D T A (mh_B (S 0) (N (S 0)) (fun r => co_h D S (ro_w (256 * r)) CS CC CO CI CW nc)) → cl_c N D T A M → (∀ q, q < 9 → fi_t (sh_N N M) (sh_D N (cl_D N D T A M) M) (U q) (R q) (T q) q) → ∀ ce ma oce oma ge ke, db_yc (sh_N N M) (sh_D N (cl_D N D T A M) M) ce ma → post (nI (dp_n N M 3)) (opY, nI ns, nI nc, ouY, kyY, liY, diY, cmY, rrY, wiY, ce, oce, bceY, ma, oma, bmaY, unY, rqY, bunY, brqY, rfY, acY, brfY, bacY, srY, csY, ccY, cpY, cwY, okY, osY, ocY, koY, ciY, kfY, cbY, goY, rsY, ge, ke))
    (hv : ns = 1 → ∀ M, M = mc_b N D T A (mh_B (S 0) (N (S 0)) (fun r => co_h D S (ro_w (256 * r)) CS CC CO CI CW nc)) → cl_c N D T A M → (¬ ∀ q, q < 9 → fi_t (sh_N N M) (sh_D N (cl_D N D T A M) M) (U q) (R q) (T q) q) → ∀ ce ma oce oma ge ke, db_yc N D ce ma → post (-3) (opY, nI ns, nI nc, ouY, kyY, liY, diY, cmY, rrY, wiY, ce, oce, bceY, ma, oma, bmaY, unY, rqY, bunY, brqY, rfY, acY, brfY, bacY, srY, csY, ccY, cpY, cwY, okY, osY, ocY, koY, ciY, kfY, cbY, goY, rsY, ge, ke)) : wpY_erase post (opY, nI ns, nI nc, ouY, kyY, liY, diY, cmY, rrY, wiY, ceY, oceY, bceY, maY, omaY, bmaY, unY, rqY, bunY, brqY, rfY, acY, brfY, bacY, srY, csY, ccY, cpY, cwY, okY, osY, ocY, koY, ciY, kfY, cbY, goY, rsY, geY, keY) := by
  have h3 := hk.1
  refine pk_eq ns 1 (fun e => ?_) (fun e => hb e)
  subst e
  have hi2 := hi rfl
  have hv2 := hv rfl
  clear hi hv hb
  have ht : S 0 < 3 := hk.2.2.1 0 (by decide)
  obtain ⟨hn, h16⟩ := hC.1 (S 0) ht
  refine ym_save (fun oce oma g1 g2 => ?_)
  refine nm_r (hsr 0 (by decide)) ?_
  generalize hP : (fun r => co_h D S (ro_w (256 * r)) CS CC CO CI CW nc) = P at hi2 hv2
  have et : (nI (S 0)).toNatClampNeg = S 0 := nI_clamp (by omega)
  have hi0 : vp_in (nI (S 0)) 3 := vp_in_nI ht (by decide)
  refine loop_0 (fun n i s => wY_erase_25 post 0 (nI (S 0)) opY (nI 1) (nI nc) ouY kyY liY diY cmY rrY wiY n (nI i) ceY oce bceY maY oma bmaY unY rqY bunY brqY rfY acY brfY bacY srY csY ccY cpY cwY okY osY ocY koY ciY kfY cbY goY rsY s keY) (fun i s => ∀ x, x < i → s x = bo_i false) 48 geY lt_0 ?_ ?_
  · intro n s hI
    refine br_t (by decide) ?_
    refine loop_0 (fun n i s => wY_erase_46 post 0 (nI (S 0)) opY (nI 1) (nI nc) ouY kyY liY diY cmY rrY wiY n (nI i) ceY oce bceY maY oma bmaY unY rqY bunY brqY rfY acY brfY bacY srY csY ccY cpY cwY okY osY ocY koY ciY kfY cbY goY rsY s keY) (fun i s => ∀ x, x < 48 → s x = bo_i (mh_B (S 0) i P x)) (N (S 0)) s (fun x hx => by rw [mh_0]; exact hI x hx) ?_ ?_
    · intro n s hI
      refine ⟨hi0, ?_⟩
      rw [et, hn]
      refine br_t (nI_le (Nat.le_refl _) (by omega)) ?_
      refine ym_cascade hC hkk hA hI (fun ge M' hm' sn' hcl' => ?_)
      have hm := mc_a sn' hcl' hm'
      have hcl := mc_c (fun t ht => (hC.1 t ht).2) sn' hcl'
      have hi3 := hi2 _ rfl hcl
      have hv3 := hv2 _ rfl hcl
      clear hi2 hv2
      generalize mc_b N D T A (mh_B (S 0) (N (S 0)) P) = M at hm hcl hi3 hv3
      refine ym_kept hC hkk hA hm (fun ke hke => ym_cleared hC hke (fun ce hC1 => ym_shrinks hC1 hm (fun ce2 ma2 hC2 => ?_)))
      exact ym_settle hC2 hkk (fun f => hi3 f _ _ _ _ _ _ hC2) (fun f ce3 ma3 a1 a2 => hv3 f _ _ _ _ _ _ (dy_ext hC (fun i hi => (a1 i hi).trans (g1 i hi)) (fun i hi => (a2 i hi).trans (g2 i hi))))
    · intro n i s hi' hI hn'
      refine ⟨hi0, ?_⟩
      rw [et, hn]
      refine br_f (nI_ge hi' (by omega)) ?_
      rw [show 256 * nI i = nI (256 * i) from pk_mul 256 i]
      have hvx : vp_in (16 * nI (S 0) + nI i) 48 := by rw [nz_16]; exact vp_in_nI (by omega) (by decide)
      have ex : (16 * nI (S 0) + nI i).toNatClampNeg = 16 * S 0 + i := by rw [nz_16, nI_clamp (by omega)]
      refine ym_holds hC hk hsr hc (by omega) (fun q hq => ?_) (fun z => ?_) (fun z => ?_)
      · have : q = 0 := by omega
        subst this
        rw [ro_256 (by omega)]
        exact hi'
      · have hPi : P i := by rw [← hP]; exact z
        exact ⟨hvx, nm_r (e' := upd s (16 * S 0 + i) (bo_i true)) (by rw [ex, bo_nar1]) (nm_r (nI_1 i) (hn' _ (mh_t hPi (by omega) hI)))⟩
      · have hPi : ¬ P i := by rw [← hP]; exact z
        refine ⟨hvx, nm_r (e' := upd s (16 * S 0 + i) (bo_i false)) (by rw [ex, bo_nar0]) (nm_r (nI_1 i) (hn' _ (fun x hx => ?_)))⟩
        have h1 := mh_f hPi hI x hx
        by_cases e : x = 16 * S 0 + i
        · subst e
          rw [pk_us]
          refine congrArg bo_i (Eq.symm ?_)
          rw [Bool.eq_false_iff]
          exact fun w => hPi ((mh_r (by omega)).mp w).2
        · rw [pk_un e]
          exact h1
  · intro n i s hi' hI hn'
    refine br_f (nI_ge (b := 48) hi' (by decide)) ⟨vp_in_nI hi' (by decide), nm_e (nm_r (nI_1 i) (hn' _ ?_))⟩
    rw [nI_clamp (by omega)]
    exact lt_s (fun j hj => by rw [pk_un (by omega)]; exact hI j hj) pk_us
end
