section
variable {toX soX coX ouX kyX moX diX rrX rwX : Int32} {ceX sceX fvX ovX rsX : Nat → Int64} {rcX unX rqX taX acX srcX sunX srqX staX sacX stX cfX cpX chX csX okX ocX koX kfX cbX mkX rtX : Nat → Int32} {opY soY coY ouY kyY liY diY cmY rrY wiY : Int32} {ceY oceY bceY rsY : Nat → Int64} {maY omaY bmaY unY rqY bunY brqY rfY acY brfY bacY srY csY ccY cpY cwY okY osY ocY koY ciY kfY cbY goY geY keY : Nat → Int32} {N : Nat → Nat} {D : Nat → Nat → Int64} {U R : Nat → Bool} {T A : Nat → Nat}
theorem xm_ins132 {post : Int32 → SX → Prop} (hk : db_k U R T A unX rqX taX acX) {N' : Nat → Nat} {D' : Nat → Nat → Int64} {t i z1 : Nat} {z0 : Int64} (ht : t < 3) (hz : z1 < 144) (hC : db_xc N' D' (vp_updL ceX z1 z0) (upd rcX t (nI (i + 1))))
    (h1 : (∀ d, d < 3 → fi_t N' D' (U (3 * t + d)) (R (3 * t + d)) (T (3 * t + d)) (3 * t + d)) → post (nI (i + 1)) (toX, soX, coX, ouX, kyX, moX, diX, rrX, rwX, vp_updL ceX z1 z0, upd rcX t (nI (i + 1)), unX, rqX, taX, acX, sceX, srcX, sunX, srqX, staX, sacX, stX, cfX, cpX, chX, csX, okX, ocX, koX, kfX, cbX, mkX, fvX, ovX, rsX, rtX))
    (h0 : (¬ ∀ d, d < 3 → fi_t N' D' (U (3 * t + d)) (R (3 * t + d)) (T (3 * t + d)) (3 * t + d)) → post (-3) (toX, soX, coX, ouX, kyX, moX, diX, rrX, rwX, vp_updL ceX z1 z0, upd (upd rcX t (nI (i + 1))) t (nI i), unX, rqX, taX, acX, sceX, srcX, sunX, srqX, staX, sacX, stX, cfX, cpX, chX, csX, okX, ocX, koX, kfX, cbX, mkX, fvX, ovX, rsX, rtX)) : wX_insert_132 post (nI t) (nI i) (nI (3 * t)) z0 (nI z1) toX soX coX ouX kyX moX diX rrX rwX ceX rcX unX rqX taX acX sceX srcX sunX srqX staX sacX stX cfX cpX chX csX okX ocX koX kfX cbX mkX fvX ovX rsX rtX := by
  have et : (nI t).toNatClampNeg = t := nI_clamp (by omega)
  have hi3 : vp_in (nI t) 3 := vp_in_nI ht (by decide)
  refine ⟨vp_in_nI hz (by decide), nm_r (congrArg (fun q => vp_updL ceX q z0) (nI_clamp (by omega))) ⟨hi3, nm_r (e' := upd rcX t (nI (i + 1))) (by rw [et, nI_1]) ?_⟩⟩
  refine xm_fits hC hk (c := 3 * t) (by omega) (fun f0 => br_f (by decide) ?_) (fun f0 => br_t rfl ⟨hi3, nm_r (congrArg (fun q => upd _ q (nI i)) et) (h0 (fun z => f0 (z 0 (by decide))))⟩)
  rw [show nI (3 * t) + 1 = nI (3 * t + 1) from nI_1 _]
  refine xm_fits hC hk (c := 3 * t + 1) (by omega) (fun f1 => br_f (by decide) ?_) (fun f1 => br_t rfl ⟨hi3, nm_r (congrArg (fun q => upd _ q (nI i)) et) (h0 (fun z => f1 (z 1 (by decide))))⟩)
  rw [show nI (3 * t) + 2 = nI (3 * t + 2) from nI_add _ 2]
  refine xm_fits hC hk (c := 3 * t + 2) (by omega) (fun f2 => br_f (by decide) ?_) (fun f2 => br_t rfl ⟨hi3, nm_r (congrArg (fun q => upd _ q (nI i)) et) (h0 (fun z => f2 (z 2 (by decide))))⟩)
  rw [nI_1]
  refine h1 (fun d hd => ?_)
  have : d = 0 ∨ d = 1 ∨ d = 2 := by omega
  rcases this with z | z | z
  · subst z; exact f0
  · subst z; exact f1
  · subst z; exact f2
theorem xv_insert {post : Int32 → SX → Prop} (hC : db_xc N D ceX rcX) (hk : db_k U R T A unX rqX taX acX) {p0 p1 p2 p3 p4 : Int32}
    (hb : ((∀ j, j < 3 → p0 ≠ nI j) ∨ (∀ j, j < 8 → p4 ≠ nI j)) → post (-1) (toX, soX, coX, ouX, kyX, moX, diX, rrX, rwX, ceX, rcX, unX, rqX, taX, acX, sceX, srcX, sunX, srqX, staX, sacX, stX, cfX, cpX, chX, csX, okX, ocX, koX, kfX, cbX, mkX, fvX, ovX, rsX, rtX))
    (hf : ∀ t m, t < 3 → m < 8 → p0 = nI t → p4 = nI m → N t = 16 → post (-2) (toX, soX, coX, ouX, kyX, moX, diX, rrX, rwX, ceX, rcX, unX, rqX, taX, acX, sceX, srcX, sunX, srqX, staX, sacX, stX, cfX, cpX, chX, csX, okX, ocX, koX, kfX, cbX, mkX, fvX, ovX, rsX, rtX))
    (hi : ∀ t m, t < 3 → m < 8 → p0 = nI t → p4 = nI m → N t < 16 → (∀ d, d < 3 → fi_t (ex_n N t (N t + 1)) (in_D N D t (in_v p1 p2 p3 m)) (U (3 * t + d)) (R (3 * t + d)) (T (3 * t + d)) (3 * t + d)) → ∀ ce rc, db_xc (ex_n N t (N t + 1)) (in_D N D t (in_v p1 p2 p3 m)) ce rc → post (nI (N t + 1)) (toX, soX, coX, ouX, kyX, moX, diX, rrX, rwX, ce, rc, unX, rqX, taX, acX, sceX, srcX, sunX, srqX, staX, sacX, stX, cfX, cpX, chX, csX, okX, ocX, koX, kfX, cbX, mkX, fvX, ovX, rsX, rtX))
    (hv : ∀ t m, t < 3 → m < 8 → p0 = nI t → p4 = nI m → N t < 16 → (¬ ∀ d, d < 3 → fi_t (ex_n N t (N t + 1)) (in_D N D t (in_v p1 p2 p3 m)) (U (3 * t + d)) (R (3 * t + d)) (T (3 * t + d)) (3 * t + d)) → ∀ ce rc, db_xc N D ce rc → post (-3) (toX, soX, coX, ouX, kyX, moX, diX, rrX, rwX, ce, rc, unX, rqX, taX, acX, sceX, srcX, sunX, srqX, staX, sacX, stX, cfX, cpX, chX, csX, okX, ocX, koX, kfX, cbX, mkX, fvX, ovX, rsX, rtX)) : wpX_insert post (toX, soX, coX, ouX, kyX, moX, diX, rrX, rwX, ceX, rcX, unX, rqX, taX, acX, sceX, srcX, sunX, srqX, staX, sacX, stX, cfX, cpX, chX, csX, okX, ocX, koX, kfX, cbX, mkX, fvX, ovX, rsX, rtX) p0 p1 p2 p3 p4 := by
  unfold wpX_insert
  dsimp only
  refine xm_out p0 (fun hout => br_f (by decide) (hb (Or.inl hout))) (fun t ht e0 => br_t rfl (rg_le 7 (fun hout => hb (Or.inr hout)) (fun m hm e4 => ?_)))
  obtain ⟨hn, h16⟩ := hC.1 t ht
  have hf' := hf t m ht hm e0 e4
  have hi' := hi t m ht hm e0 e4
  have hv' := hv t m ht hm e0 e4
  subst e0 e4
  refine ⟨vp_in_nI ht (by decide), nm_r (e' := nI (N t)) (by rw [nI_clamp (by omega)]; exact hn) (pk_lt (N t) 16 (fun h => ?_) (fun h => hf' (by omega)))⟩
  refine nm_r (nz_3m t) ?_
  rw [nz_16]
  obtain ⟨b0, b1, b2⟩ := nb_x m hm
  refine br_if (fun z => wX_insert_71 post (nI t) p2 p3 (nI m) (nI (N t)) (nI (3 * t)) z (nI (16 * (3 * t) + N t)) toX soX coX ouX kyX moX diX rrX rwX ceX rcX unX rqX taX acX sceX srcX sunX srqX staX sacX stX cfX cpX chX csX okX ocX koX kfX cbX mkX fvX ovX rsX rtX) b0 ?_
  refine ⟨vp_in_nI (by omega) (by decide), nm_r (congrArg (fun q => vp_updL ceX q _) (nI_clamp (by omega))) ?_⟩
  rw [show nI (3 * t) + 1 = nI (3 * t + 1) from nI_1 _, nz_16]
  refine br_if (fun z => wX_insert_101 post (nI t) p3 (nI m) (nI (N t)) (nI (3 * t)) z (nI (16 * (3 * t + 1) + N t)) toX soX coX ouX kyX moX diX rrX rwX (vp_updL ceX (16 * (3 * t) + N t) (if m % 2 = 0 then p1.toInt64 else nu_l)) rcX unX rqX taX acX sceX srcX sunX srqX staX sacX stX cfX cpX chX csX okX ocX koX kfX cbX mkX fvX ovX rsX rtX) b1 ?_
  refine ⟨vp_in_nI (by omega) (by decide), nm_r (congrArg (fun q => vp_updL _ q _) (nI_clamp (by omega))) ?_⟩
  rw [show nI (3 * t) + 2 = nI (3 * t + 2) from nI_add _ 2, nz_16]
  refine br_if (fun z => wX_insert_132 post (nI t) (nI (N t)) (nI (3 * t)) z (nI (16 * (3 * t + 2) + N t)) toX soX coX ouX kyX moX diX rrX rwX (vp_updL (vp_updL ceX (16 * (3 * t) + N t) (if m % 2 = 0 then p1.toInt64 else nu_l)) (16 * (3 * t + 1) + N t) (if m / 2 % 2 = 0 then p2.toInt64 else nu_l)) rcX unX rqX taX acX sceX srcX sunX srqX staX sacX stX cfX cpX chX csX okX ocX koX kfX cbX mkX fvX ovX rsX rtX) b2 ?_
  exact xm_ins132 hk ht (by omega) (dx_ins ht h hC (in_v p1 p2 p3 m)) (fun f => hi' h f _ _ (dx_ins ht h hC (in_v p1 p2 p3 m))) (fun f => hv' h f _ _ (dx_ins0 ht h hC _ _ _))
theorem yv_insert {post : Int32 → SY → Prop} (hC : db_yc N D ceY maY) (hk : db_k U R T A unY rqY rfY acY) {p0 p1 p2 p3 p4 : Int32}
    (hb : ((∀ j, j < 3 → p0 ≠ nI j) ∨ (∀ j, j < 8 → p4 ≠ nI j)) → post (-1) (opY, soY, coY, ouY, kyY, liY, diY, cmY, rrY, wiY, ceY, oceY, bceY, maY, omaY, bmaY, unY, rqY, bunY, brqY, rfY, acY, brfY, bacY, srY, csY, ccY, cpY, cwY, okY, osY, ocY, koY, ciY, kfY, cbY, goY, rsY, geY, keY))
    (hf : ∀ t m, t < 3 → m < 8 → p0 = nI t → p4 = nI m → N t = 16 → post (-2) (opY, soY, coY, ouY, kyY, liY, diY, cmY, rrY, wiY, ceY, oceY, bceY, maY, omaY, bmaY, unY, rqY, bunY, brqY, rfY, acY, brfY, bacY, srY, csY, ccY, cpY, cwY, okY, osY, ocY, koY, ciY, kfY, cbY, goY, rsY, geY, keY))
    (hi : ∀ t m, t < 3 → m < 8 → p0 = nI t → p4 = nI m → N t < 16 → (∀ c, c < 9 → fi_t (ex_n N t (N t + 1)) (in_D N D t (in_v p1 p2 p3 m)) (U c) (R c) (T c) c) → ∀ ce ma oce oma, db_yc (ex_n N t (N t + 1)) (in_D N D t (in_v p1 p2 p3 m)) ce ma → post (nI (N t + 1)) (opY, soY, coY, ouY, kyY, liY, diY, cmY, rrY, wiY, ce, oce, bceY, ma, oma, bmaY, unY, rqY, bunY, brqY, rfY, acY, brfY, bacY, srY, csY, ccY, cpY, cwY, okY, osY, ocY, koY, ciY, kfY, cbY, goY, rsY, geY, keY))
    (hv : ∀ t m, t < 3 → m < 8 → p0 = nI t → p4 = nI m → N t < 16 → (¬ ∀ c, c < 9 → fi_t (ex_n N t (N t + 1)) (in_D N D t (in_v p1 p2 p3 m)) (U c) (R c) (T c) c) → ∀ ce ma oce oma, db_yc N D ce ma → post (-3) (opY, soY, coY, ouY, kyY, liY, diY, cmY, rrY, wiY, ce, oce, bceY, ma, oma, bmaY, unY, rqY, bunY, brqY, rfY, acY, brfY, bacY, srY, csY, ccY, cpY, cwY, okY, osY, ocY, koY, ciY, kfY, cbY, goY, rsY, geY, keY)) : wpY_insert post (opY, soY, coY, ouY, kyY, liY, diY, cmY, rrY, wiY, ceY, oceY, bceY, maY, omaY, bmaY, unY, rqY, bunY, brqY, rfY, acY, brfY, bacY, srY, csY, ccY, cpY, cwY, okY, osY, ocY, koY, ciY, kfY, cbY, goY, rsY, geY, keY) p0 p1 p2 p3 p4 := by
  unfold wpY_insert
  dsimp only
  refine ym_within (n := 3) (by decide) (fun hout => br_t rfl (hb (Or.inl hout))) (fun t ht e0 => br_f (by decide) (ym_within (n := 8) (by decide) (fun hout => br_t rfl (hb (Or.inr hout))) (fun m hm e4 => br_f (by decide) ?_)))
  obtain ⟨hn, h16⟩ := hC.1 t ht
  have hf' := hf t m ht hm e0 e4
  have hi' := hi t m ht hm e0 e4
  have hv' := hv t m ht hm e0 e4
  subst e0 e4
  have hi3 : vp_in (nI t) 3 := vp_in_nI ht (by decide)
  refine ⟨hi3, ?_⟩
  rw [nI_clamp (show t < 2 ^ 31 by omega), hn]
  refine pk_eq (N t) 16 (fun h => hf' h) (fun h => ym_save (fun oce oma h1 h2 => ⟨hi3, ?_⟩))
  have hl : N t < 16 := by omega
  dsimp only
  rw [hn, nz_3m, nz_48, nI_add]
  refine nm_e ?_
  obtain ⟨b0, b1, b2⟩ := nb_y m hm
  refine br_ifn (fun z => wY_insert_75 post (nI t) p2 p3 (nI m) (nI (48 * t + 3 * N t)) z (nI (48 * t + 3 * N t)) opY soY coY ouY kyY liY diY cmY rrY wiY ceY oce bceY maY oma bmaY unY rqY bunY brqY rfY acY brfY bacY srY csY ccY cpY cwY okY osY ocY koY ciY kfY cbY goY rsY geY keY) b0 ?_
  refine ⟨vp_in_nI (by omega) (by decide), nm_r (congrArg (fun q => vp_updL ceY q _) (nI_clamp (by omega))) ?_⟩
  rw [nI_1]
  refine br_ifn (fun z => wY_insert_102 post (nI t) p3 (nI m) (nI (48 * t + 3 * N t)) z (nI (48 * t + 3 * N t + 1)) opY soY coY ouY kyY liY diY cmY rrY wiY (vp_updL ceY (48 * t + 3 * N t) (if m % 2 = 0 then p1.toInt64 else nu_l)) oce bceY maY oma bmaY unY rqY bunY brqY rfY acY brfY bacY srY csY ccY cpY cwY okY osY ocY koY ciY kfY cbY goY rsY geY keY) b1 ?_
  refine ⟨vp_in_nI (by omega) (by decide), nm_r (congrArg (fun q => vp_updL _ q _) (nI_clamp (by omega))) ?_⟩
  rw [show nI (48 * t + 3 * N t) + 2 = nI (48 * t + 3 * N t + 2) from nI_add _ 2]
  refine br_ifn (fun z => wY_insert_130 post (nI t) z (nI (48 * t + 3 * N t + 2)) opY soY coY ouY kyY liY diY cmY rrY wiY (vp_updL (vp_updL ceY (48 * t + 3 * N t) (if m % 2 = 0 then p1.toInt64 else nu_l)) (48 * t + 3 * N t + 1) (if m / 2 % 2 = 0 then p2.toInt64 else nu_l)) oce bceY maY oma bmaY unY rqY bunY brqY rfY acY brfY bacY srY csY ccY cpY cwY okY osY ocY koY ciY kfY cbY goY rsY geY keY) b2 ?_
  refine ⟨vp_in_nI (by omega) (by decide), nm_r (congrArg (fun q => vp_updL _ q _) (nI_clamp (by omega))) ⟨hi3, hi3, nm_r (e' := upd maY t (nI (N t + 1))) (by rw [nI_clamp (by omega), hn, nI_1]) ⟨hi3, ?_⟩⟩⟩
  rw [show upd maY t (nI (N t + 1)) (nI t).toNatClampNeg = nI (N t + 1) by rw [nI_clamp (by omega)]; exact pk_us]
  have hC' := dy_ins ht hl hC (in_v p1 p2 p3 m)
  refine ym_settle hC' hk (fun f => hi' hl f _ _ _ _ hC') (fun f ce ma g1 g2 => hv' hl f _ _ _ _ (dy_ext hC (fun i hi => (g1 i hi).trans (h1 i hi)) (fun i hi => (g2 i hi).trans (h2 i hi))))
theorem in_oth {t : Nat} {w : Nat → Int64} (hK : db_K N D U R T A) {c : Nat} (hc : c < 9) (hne : c / 3 ≠ t) : fi_t (ex_n N t (N t + 1)) (in_D N D t w) (U c) (R c) (T c) c := by
  obtain ⟨_, hT, f1, f2, f3⟩ := hK.1 c hc
  have en : ex_n N t (N t + 1) (c / 3) = N (c / 3) := if_neg hne
  have ed : ∀ r, in_D N D t w c r = D c r := fun r => if_neg (fun z => hne z.1)
  refine ⟨fun hu i j hj hi hv => ?_, fun hr i hi => ?_, fun ht i hi hv => ?_⟩
  · rw [en] at hi
    rw [ed] at hv ⊢
    rw [ed]
    exact f1 hu i j hj hi hv
  · rw [en] at hi
    rw [ed]
    exact f2 hr i hi
  · rw [en] at hi
    rw [ed] at hv ⊢
    obtain ⟨j, hj, e⟩ := f3 ht i hi hv
    by_cases e2 : T c / 3 = t
    · refine ⟨j, ?_, ?_⟩
      · rw [e2, ex_s]
        rw [e2] at hj
        omega
      · rw [show in_D N D t w (T c) j = D (T c) j from if_neg (fun z => by have := z.2; rw [e2] at hj; omega)]
        exact e
    · refine ⟨j, ?_, ?_⟩
      · rw [show ex_n N t (N t + 1) (T c / 3) = N (T c / 3) from if_neg e2]
        exact hj
      · rw [show in_D N D t w (T c) j = D (T c) j from if_neg (fun z => e2 z.1)]
        exact e
theorem in_all {t : Nat} {w : Nat → Int64} (hK : db_K N D U R T A) (ht : t < 3) : (∀ d, d < 3 → fi_t (ex_n N t (N t + 1)) (in_D N D t w) (U (3 * t + d)) (R (3 * t + d)) (T (3 * t + d)) (3 * t + d)) ↔ ∀ c, c < 9 → fi_t (ex_n N t (N t + 1)) (in_D N D t w) (U c) (R c) (T c) c := by
  constructor
  · intro h c hc
    by_cases e : c / 3 = t
    · have : c = 3 * t + c % 3 := by omega
      rw [this]
      exact h (c % 3) (by omega)
    · exact in_oth hK hc e
  · intro h d hd
    exact h _ (by omega)
theorem in_val (p1 p2 p3 : Int32) (m c : Nat) : in_v p1 p2 p3 m c = nu_l ∨ ∃ z : Int32, in_v p1 p2 p3 m c = z.toInt64 := by
  unfold in_v
  split
  · split
    · exact Or.inr ⟨_, rfl⟩
    · exact Or.inl rfl
  · split
    · split
      · exact Or.inr ⟨_, rfl⟩
      · exact Or.inl rfl
    · split
      · exact Or.inr ⟨_, rfl⟩
      · exact Or.inl rfl
theorem in_K {t m : Nat} {p1 p2 p3 : Int32} (hK : db_K N D U R T A) (h : ∀ c, c < 9 → fi_t (ex_n N t (N t + 1)) (in_D N D t (in_v p1 p2 p3 m)) (U c) (R c) (T c) c) : db_K (ex_n N t (N t + 1)) (in_D N D t (in_v p1 p2 p3 m)) U R T A := by
  refine ⟨fun c hc => ⟨(hK.1 c hc).1, (hK.1 c hc).2.1, h c hc⟩, fun c r hc hr => ?_⟩
  by_cases e : c / 3 = t ∧ r = N t
  · rw [show in_D N D t (in_v p1 p2 p3 m) c r = in_v p1 p2 p3 m (c % 3) from if_pos e]
    exact in_val _ _ _ _ _
  · rw [show in_D N D t (in_v p1 p2 p3 m) c r = D c r from if_neg e]
    refine hK.2 c r hc ?_
    by_cases e2 : c / 3 = t
    · rw [e2, ex_s] at hr
      have : r ≠ N t := fun z => e ⟨e2, z⟩
      rw [e2]
      omega
    · rw [show ex_n N t (N t + 1) (c / 3) = N (c / 3) from if_neg e2] at hr
      exact hr
end
theorem i_vc_insert {k : Nat} {u : SX} {v : SY} (I : i_Rel k u v) (hk : k + 6 ≤ 3072) (v1 : Int32) (v2 : Int32) (v3 : Int32) (v4 : Int32) (v5 : Int32) : wpX_insert (fun r u' => wpY_insert (fun r' v' => r' = r ∧ i_Rel (k + 6) u' v') v v1 v2 v3 v4 v5) u v1 v2 v3 v4 v5 := by
  rcases u with ⟨toX, soX, coX, ouX, kyX, moX, diX, rrX, rwX, ceX, rcX, unX, rqX, taX, acX, sceX, srcX, sunX, srqX, staX, sacX, stX, cfX, cpX, chX, csX, okX, ocX, koX, kfX, cbX, mkX, fvX, ovX, rsX, rtX⟩
  rcases v with ⟨opY, soY, coY, ouY, kyY, liY, diY, cmY, rrY, wiY, ceY, oceY, bceY, maY, omaY, bmaY, unY, rqY, bunY, brqY, rfY, acY, brfY, bacY, srY, csY, ccY, cpY, cwY, okY, osY, ocY, koY, ciY, kfY, cbY, goY, rsY, geY, keY⟩
  obtain ⟨hdb, hsv, hdr, hli, hre⟩ := I
  have keep := hdb
  obtain ⟨N, D, U, R, T, A, hx, hxk, hy, hyk, hK⟩ := hdb
  have un : ∀ {a b c d : Nat}, a < 3 → b < 8 → c < 3 → d < 8 → v1 = nI a → v5 = nI b → v1 = nI c → v5 = nI d → c = a ∧ d = b := by
    intro a b c d ha hb hc hd ea eb ec ed
    rw [ea, nI_eq (by omega) (by omega)] at ec
    rw [eb, nI_eq (by omega) (by omega)] at ed
    exact ⟨ec.symm, ed.symm⟩
  refine xv_insert hx hxk (fun hb => ?_) (fun t m ht hm et em hN => ?_) (fun t m ht hm et em hN f ce rc hx' => ?_) (fun t m ht hm et em hN f ce rc hx' => ?_)
  · have no : ∀ {P : Prop} {a b : Nat}, a < 3 → b < 8 → v1 = nI a → v5 = nI b → P := by
      intro P a b ha hb' ea eb
      rcases hb with z | z
      · exact rg_no z ha ea
      · exact rg_no z hb' eb
    exact yv_insert hy hyk (fun _ => ⟨rfl, keep, hsv, hdr, hli, hre⟩) (fun _ _ a b ea eb => no a b ea eb) (fun _ _ a b ea eb => no a b ea eb) (fun _ _ a b ea eb => no a b ea eb)
  · refine yv_insert hy hyk (fun hb => ?_) (fun _ _ _ _ _ _ _ => ⟨rfl, keep, hsv, hdr, hli, hre⟩) (fun t' m' ht' hm' et' em' hN' => ?_) (fun t' m' ht' hm' et' em' hN' => ?_)
    · rcases hb with z | z
      · exact rg_no z ht et
      · exact rg_no z hm em
    · obtain ⟨rfl, rfl⟩ := un ht hm ht' hm' et em et' em'
      omega
    · obtain ⟨rfl, rfl⟩ := un ht hm ht' hm' et em et' em'
      omega
  · refine yv_insert hy hyk (fun hb => ?_) (fun t' m' ht' hm' et' em' hN' => ?_) (fun t' m' ht' hm' et' em' hN' f' ce' ma' oce' oma' hy' => ?_) (fun t' m' ht' hm' et' em' hN' f' => ?_)
    · rcases hb with z | z
      · exact rg_no z ht et
      · exact rg_no z hm em
    · obtain ⟨rfl, rfl⟩ := un ht hm ht' hm' et em et' em'
      omega
    · obtain ⟨rfl, rfl⟩ := un ht hm ht' hm' et em et' em'
      exact ⟨rfl, ⟨_, _, U, R, T, A, hx', hxk, hy', hyk, in_K hK f'⟩, hsv, hdr, hli, hre⟩
    · obtain ⟨rfl, rfl⟩ := un ht hm ht' hm' et em et' em'
      exact absurd ((in_all hK ht).mp f) f'
  · refine yv_insert hy hyk (fun hb => ?_) (fun t' m' ht' hm' et' em' hN' => ?_) (fun t' m' ht' hm' et' em' hN' f' => ?_) (fun t' m' ht' hm' et' em' hN' f' ce' ma' oce' oma' hy' => ⟨rfl, ⟨N, D, U, R, T, A, hx', hxk, hy', hyk, hK⟩, hsv, hdr, hli, hre⟩)
    · rcases hb with z | z
      · exact rg_no z ht et
      · exact rg_no z hm em
    · obtain ⟨rfl, rfl⟩ := un ht hm ht' hm' et em et' em'
      omega
    · obtain ⟨rfl, rfl⟩ := un ht hm ht' hm' et em et' em'
      exact absurd ((in_all hK ht).mpr f') f
