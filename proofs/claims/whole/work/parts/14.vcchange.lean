section
variable {toX soX coX ouX kyX moX diX rrX rwX : Int32} {ceX sceX fvX ovX rsX : Nat → Int64} {rcX unX rqX taX acX srcX sunX srqX staX sacX stX cfX cpX chX csX okX ocX koX kfX cbX mkX rtX : Nat → Int32} {opY soY coY ouY kyY liY diY cmY rrY wiY : Int32} {ceY oceY bceY rsY : Nat → Int64} {maY omaY bmaY unY rqY bunY brqY rfY acY brfY bacY srY csY ccY cpY cwY okY osY ocY koY ciY kfY cbY goY geY keY : Nat → Int32} {N : Nat → Nat} {D : Nat → Nat → Int64} {U R : Nat → Bool} {T A : Nat → Nat} {nc : Nat} {S CS CC CO : Nat → Nat} {CI : Nat → Bool} {CW : Nat → Int32} {M : Nat → Bool}
def ch_I (N : Nat → Nat) (D : Nat → Nat → Int64) (M : Nat → Bool) (t c how : Nat) (v : Int32) (i : Nat) (s : Nat → Int64) : Prop :=
  (∀ c' r, c' < 9 → r < N (c' / 3) → (c' ≠ 3 * t + c ∨ i ≤ r) → s (48 * (c' / 3) + 3 * r + c' % 3) = D c' r) ∧ ∀ r, r < i → s (48 * t + 3 * r + c) = ch_D D (3 * t + c) M how v (3 * t + c) r
theorem ch_I0 {t c how : Nat} {v : Int32} {i : Nat} {s : Nat → Int64} (h : ch_I N D M t c how v i s) (hc : c < 3) (ht : t < 3) (hi : i < N t) (e : ch_D D (3 * t + c) M how v (3 * t + c) i = D (3 * t + c) i) : ch_I N D M t c how v (i + 1) s := by
  refine ⟨fun c' r hc' hr hor => h.1 c' r hc' hr (by rcases hor with z | z; exact Or.inl z; exact Or.inr (by omega)), lt_s h.2 ?_⟩
  rw [e]
  have := h.1 (3 * t + c) i (by omega) (by rw [show (3 * t + c) / 3 = t by omega]; exact hi) (Or.inr (Nat.le_refl _))
  rw [show (3 * t + c) / 3 = t by omega, show (3 * t + c) % 3 = c by omega] at this
  exact this
theorem ch_I1 (h16 : ∀ t, t < 3 → N t ≤ 16) {t c how : Nat} {v : Int32} {i : Nat} {s : Nat → Int64} (h : ch_I N D M t c how v i s) (hc : c < 3) (ht : t < 3) (hi : i < N t) : ch_I N D M t c how v (i + 1) (vp_updL s (48 * t + 3 * i + c) (ch_D D (3 * t + c) M how v (3 * t + c) i)) := by
  have hN := h16 t ht
  refine ⟨fun c' r hc' hr hor => ?_, lt_s (fun r hr => ?_) pk_uLs⟩
  · have hN' := h16 (c' / 3) (by omega)
    rw [pk_uLn ?_]
    · exact h.1 c' r hc' hr (by rcases hor with z | z; exact Or.inl z; exact Or.inr (by omega))
    · intro z
      have h1 : c' / 3 = t := by omega
      have h2 : r = i := by omega
      have h3 : c' % 3 = c := by omega
      rcases hor with w | w
      · exact w (by omega)
      · omega
  · rw [pk_uLn (by omega)]
    exact h.2 r hr
theorem ch_IN {t c how : Nat} {v : Int32} {s : Nat → Int64} {ma : Nat → Int32} (h : ch_I N D M t c how v (N t) s) (hc : c < 3) (h1 : ∀ t, t < 3 → ma t = nI (N t) ∧ N t ≤ 16) : db_yc N (ch_D D (3 * t + c) M how v) s ma := by
  refine ⟨h1, fun c' r hc' hr => ?_⟩
  by_cases e : c' = 3 * t + c
  · subst e
    rw [show (3 * t + c) / 3 = t by omega] at hr ⊢
    rw [show (3 * t + c) % 3 = c by omega]
    exact h.2 r hr
  · rw [ch_o e]
    exact h.1 c' r hc' hr (Or.inl e)
theorem ym_ch107 {post : Int32 → SY → Prop} (hC : db_yc N D ceY maY) (hk : db_k U R T A unY rqY rfY acY) {t c how : Nat} {v p : Int32} (ht : t < 3) (hc : c < 3) (hh : how < 3) (hM : ∀ r, r < N t → geY (16 * t + r) = bo_i (M (16 * t + r)))
    (h1 : (∀ q, q < 9 → fi_t N (ch_D D (3 * t + c) M how v) (U q) (R q) (T q) q) → ∀ ce, db_yc N (ch_D D (3 * t + c) M how v) ce maY → post p (opY, soY, coY, ouY, kyY, liY, diY, cmY, rrY, wiY, ce, oceY, bceY, maY, omaY, bmaY, unY, rqY, bunY, brqY, rfY, acY, brfY, bacY, srY, csY, ccY, cpY, cwY, okY, osY, ocY, koY, ciY, kfY, cbY, goY, rsY, geY, keY))
    (h0 : (¬ ∀ q, q < 9 → fi_t N (ch_D D (3 * t + c) M how v) (U q) (R q) (T q) q) → ∀ ce ma, (∀ i, i < 144 → ce i = oceY i) → (∀ t, t < 3 → ma t = omaY t) → post (-3) (opY, soY, coY, ouY, kyY, liY, diY, cmY, rrY, wiY, ce, oceY, bceY, ma, omaY, bmaY, unY, rqY, bunY, brqY, rfY, acY, brfY, bacY, srY, csY, ccY, cpY, cwY, okY, osY, ocY, koY, ciY, kfY, cbY, goY, rsY, geY, keY)) : ∃ n, wY_change_107 post (nI c) (nI how) v p (nI t) opY soY coY ouY kyY liY diY cmY rrY wiY n 0 ceY oceY bceY maY omaY bmaY unY rqY bunY brqY rfY acY brfY bacY srY csY ccY cpY cwY okY osY ocY koY ciY kfY cbY goY rsY geY keY := by
  obtain ⟨hn, h16⟩ := hC.1 t ht
  have et : (nI t).toNatClampNeg = t := nI_clamp (by omega)
  have hi3 : vp_in (nI t) 3 := vp_in_nI ht (by decide)
  refine loop_0 (fun n i s => wY_change_107 post (nI c) (nI how) v p (nI t) opY soY coY ouY kyY liY diY cmY rrY wiY n (nI i) s oceY bceY maY omaY bmaY unY rqY bunY brqY rfY acY brfY bacY srY csY ccY cpY cwY okY osY ocY koY ciY kfY cbY goY rsY geY keY) (fun i s => ch_I N D M t c how v i s) (N t) ceY ⟨fun c r hc hr _ => hC.2 c r hc hr, lt_0⟩ ?_ ?_
  · intro n s hI
    refine ⟨hi3, ?_⟩
    rw [et, hn]
    refine br_t (nI_le (Nat.le_refl _) (by omega)) ?_
    have hC' := ch_IN hI hc hC.1
    exact ym_settle hC' hk (fun f => h1 f _ hC') (fun f ce ma g1 g2 => h0 f ce ma g1 g2)
  · intro n i s hi hI hn'
    have ex : ((48 * nI t) + (3 * nI i)) + nI c = nI (48 * t + 3 * i + c) := by rw [nz_48, nz_3m, nI_add, nI_add]
    have ev : (nI (48 * t + 3 * i + c)).toNatClampNeg = 48 * t + 3 * i + c := nI_clamp (by omega)
    have hvx : vp_in (nI (48 * t + 3 * i + c)) 144 := vp_in_nI (by omega) (by decide)
    have ecur : s (48 * t + 3 * i + c) = D (3 * t + c) i := by
      have := hI.1 (3 * t + c) i (by omega) (by rw [show (3 * t + c) / 3 = t by omega]; exact hi) (Or.inr (Nat.le_refl _))
      rw [show (3 * t + c) / 3 = t by omega, show (3 * t + c) % 3 = c by omega] at this
      exact this
    refine ⟨hi3, ?_⟩
    rw [et, hn]
    refine br_f (nI_ge hi (by omega)) (nm_r ex ⟨by rw [nz_16]; exact vp_in_nI (by omega) (by decide), ?_⟩)
    rw [show geY (16 * nI t + nI i).toNatClampNeg = bo_i (M (16 * t + i)) by rw [nz_16, nI_clamp (by omega)]; exact hM i hi, ev, ecur]
    have hdiv : (3 * t + c) / 3 = t := by omega
    by_cases m : M (16 * t + i) = true
    · refine br_f (bo_n.mpr m) ?_
      have step : ∀ w, w = ch_v how v (D (3 * t + c) i) → wY_change_107 post (nI c) (nI how) v p (nI t) opY soY coY ouY kyY liY diY cmY rrY wiY n (nI (i + 1)) (vp_updL s (48 * t + 3 * i + c) w) oceY bceY maY omaY bmaY unY rqY bunY brqY rfY acY brfY bacY srY csY ccY cpY cwY okY osY ocY koY ciY kfY cbY goY rsY geY keY := by
        intro w ew
        have ed : ch_D D (3 * t + c) M how v (3 * t + c) i = w := by
          rw [ew]
          exact ch_t (by rw [hdiv]; exact m)
        have := hn' _ (ch_I1 (fun t ht => (hC.1 t ht).2) hI hc ht hi)
        rw [ed] at this
        exact this
      by_cases e0 : how = 0
      · subst e0
        exact br_t rfl ⟨hvx, nm_e (nm_r (nI_1 i) (step _ rfl))⟩
      · refine br_f (op_ne (b := 0) (by omega) (by decide) e0) ?_
        by_cases e1 : how = 1
        · subst e1
          exact br_t rfl ⟨hvx, nm_e (nm_r (nI_1 i) (step _ rfl))⟩
        · refine br_f (op_ne (b := 1) (by omega) (by decide) e1) ⟨hvx, ?_⟩
          have eh : ch_v how v (D (3 * t + c) i) = if D (3 * t + c) i = nu_l then nu_l else ((D (3 * t + c) i).toInt32 + v).toInt64 := by
            unfold ch_v
            rw [if_neg e0, if_neg e1]
          by_cases e2 : D (3 * t + c) i = nu_l
          · refine br_t e2 (nm_r (nI_1 i) (hn' s (ch_I0 hI hc ht hi ?_)))
            rw [ch_t (by rw [hdiv]; exact m), eh, if_pos e2, e2]
          · refine br_f e2 ⟨hvx, hvx, nm_e (nm_r (nI_1 i) (step _ ?_))⟩
            rw [eh, if_neg e2, ch_add]
    · refine br_t (bo_0.mpr (by simpa using m)) (nm_r (nI_1 i) (hn' s (ch_I0 hI hc ht hi (ch_f (by rw [hdiv]; exact m)))))
theorem yv_change {post : Int32 → SY → Prop} (hC : db_yc N D ceY maY) (hkk : db_k U R T A unY rqY rfY acY) {ns : Nat} (hk : ck_c ns nc S CS CC CO CI CW) (hsr : ∀ s, s < ns → srY s = nI (S s)) (hc : cy_c nc CS CC CO CI CW csY ccY cpY ciY cwY) {p0 p1 p2 : Int32}
    (hb : (ns ≠ 1 ∨ (∀ j, j < 3 → p0 ≠ nI j) ∨ (∀ j, j < 3 → p1 ≠ nI j)) → post (-1) (opY, nI ns, nI nc, ouY, kyY, liY, diY, cmY, rrY, wiY, ceY, oceY, bceY, maY, omaY, bmaY, unY, rqY, bunY, brqY, rfY, acY, brfY, bacY, srY, csY, ccY, cpY, cwY, okY, osY, ocY, koY, ciY, kfY, cbY, goY, rsY, geY, keY))
    (hi : ∀ c how, ns = 1 → c < 3 → how < 3 → p0 = nI c → p1 = nI how → ∀ M, M = mh_B (S 0) (N (S 0)) (fun r => co_h D S (ro_w (256 * r)) CS CC CO CI CW nc) → (∀ q, q < 9 → fi_t N (ch_D D (3 * S 0 + c) M how p2) (U q) (R q) (T q) q) → ∀ ce oce oma ge, db_yc N (ch_D D (3 * S 0 + c) M how p2) ce maY → post (nI (cn_b (fun r => M (16 * S 0 + r)) (N (S 0)))) (opY, nI ns, nI nc, ouY, kyY, liY, diY, cmY, rrY, wiY, ce, oce, bceY, maY, oma, bmaY, unY, rqY, bunY, brqY, rfY, acY, brfY, bacY, srY, csY, ccY, cpY, cwY, okY, osY, ocY, koY, ciY, kfY, cbY, goY, rsY, ge, keY))
    (hv : ∀ c how, ns = 1 → c < 3 → how < 3 → p0 = nI c → p1 = nI how → ∀ M, M = mh_B (S 0) (N (S 0)) (fun r => co_h D S (ro_w (256 * r)) CS CC CO CI CW nc) → (¬ ∀ q, q < 9 → fi_t N (ch_D D (3 * S 0 + c) M how p2) (U q) (R q) (T q) q) → ∀ ce ma oce oma ge, db_yc N D ce ma → post (-3) (opY, nI ns, nI nc, ouY, kyY, liY, diY, cmY, rrY, wiY, ce, oce, bceY, ma, oma, bmaY, unY, rqY, bunY, brqY, rfY, acY, brfY, bacY, srY, csY, ccY, cpY, cwY, okY, osY, ocY, koY, ciY, kfY, cbY, goY, rsY, ge, keY)) : wpY_change post (opY, nI ns, nI nc, ouY, kyY, liY, diY, cmY, rrY, wiY, ceY, oceY, bceY, maY, omaY, bmaY, unY, rqY, bunY, brqY, rfY, acY, brfY, bacY, srY, csY, ccY, cpY, cwY, okY, osY, ocY, koY, ciY, kfY, cbY, goY, rsY, geY, keY) p0 p1 p2 := by
  have h3 := hk.1
  refine pk_eq ns 1 (fun e => ?_) (fun e => hb (Or.inl e))
  subst e
  refine ym_within (n := 3) (by decide) (fun h => br_t rfl (hb (Or.inr (Or.inl h)))) (fun c hc3 e0 => br_f (by decide) (ym_within (n := 3) (by decide) (fun h => br_t rfl (hb (Or.inr (Or.inr h)))) (fun how hh e1 => br_f (by decide) (ym_save (fun oce oma g1 g2 => ?_)))))
  have hi2 := hi c how rfl hc3 hh e0 e1
  have hv2 := hv c how rfl hc3 hh e0 e1
  clear hi hv hb
  subst e0 e1
  have ht : S 0 < 3 := hk.2.2.1 0 (by decide)
  obtain ⟨hn, h16⟩ := hC.1 (S 0) ht
  refine nm_r (hsr 0 (by decide)) ?_
  generalize hP : (fun r => co_h D S (ro_w (256 * r)) CS CC CO CI CW nc) = P at hi2 hv2
  have hi3 := hi2 _ rfl
  have hv3 := hv2 _ rfl
  clear hi2 hv2
  generalize hM : mh_B (S 0) (N (S 0)) P = M at hi3 hv3
  have et : (nI (S 0)).toNatClampNeg = S 0 := nI_clamp (by omega)
  have hi0 : vp_in (nI (S 0)) 3 := vp_in_nI ht (by decide)
  refine loop_0 (fun n i s => wY_change_44 post (nI c) (nI how) p2 (nI (S 0)) opY (nI 1) (nI nc) ouY kyY liY diY cmY rrY wiY n (nI (cn_b (fun r => M (16 * S 0 + r)) i)) (nI i) ceY oce bceY maY oma bmaY unY rqY bunY brqY rfY acY brfY bacY srY csY ccY cpY cwY okY osY ocY koY ciY kfY cbY goY rsY s keY) (fun i s => ∀ r, r < i → s (16 * S 0 + r) = bo_i (M (16 * S 0 + r))) (N (S 0)) geY lt_0 ?_ ?_
  · intro n s hI
    refine ⟨hi0, ?_⟩
    rw [et, hn]
    refine br_t (nI_le (Nat.le_refl _) (by omega)) ?_
    refine ym_ch107 hC hkk ht hc3 hh hI (fun f ce hC' => hi3 f ce oce oma s hC') (fun f ce ma a1 a2 => hv3 f ce ma oce oma s (dy_ext hC (fun i hi => (a1 i hi).trans (g1 i hi)) (fun i hi => (a2 i hi).trans (g2 i hi))))
  · intro n i s hi' hI hn'
    refine ⟨hi0, ?_⟩
    rw [et, hn]
    refine br_f (nI_ge hi' (by omega)) ?_
    rw [show 256 * nI i = nI (256 * i) from pk_mul 256 i]
    have hvx : vp_in (16 * nI (S 0) + nI i) 48 := by rw [nz_16]; exact vp_in_nI (by omega) (by decide)
    have ex : (16 * nI (S 0) + nI i).toNatClampNeg = 16 * S 0 + i := by rw [nz_16, nI_clamp (by omega)]
    have nxt : ∀ b, M (16 * S 0 + i) = b → ∀ r, r < i + 1 → upd s (16 * S 0 + i) (bo_i b) (16 * S 0 + r) = bo_i (M (16 * S 0 + r)) := by
      intro b eb
      refine lt_s (fun r hr => ?_) ?_
      · rw [pk_un (by omega)]
        exact hI r hr
      · rw [pk_us, eb]
    refine ym_holds hC hk hsr hc (by omega) (fun q hq => ?_) (fun z => ?_) (fun z => ?_)
    · have : q = 0 := by omega
      subst this
      rw [ro_256 (by omega)]
      exact hi'
    · have hPi : P i := by rw [← hP]; exact z
      have hb : M (16 * S 0 + i) = true := by rw [← hM]; exact (mh_r (by omega)).mpr ⟨hi', hPi⟩
      refine ⟨hvx, nm_r (e' := upd s (16 * S 0 + i) (bo_i true)) (by rw [ex, bo_nar1]) ⟨hvx, ?_⟩⟩
      rw [ex, pk_us]
      refine br_f (by decide) (nm_r (e' := nI (cn_b (fun r => M (16 * S 0 + r)) (i + 1))) (by rw [cn_t (f := fun r => M (16 * S 0 + r)) hb, nI_1]) (nm_r (nI_1 i) (hn' _ (nxt _ hb))))
    · have hPi : ¬ P i := by rw [← hP]; exact z
      have hb : M (16 * S 0 + i) = false := by
        rw [← hM, Bool.eq_false_iff]
        exact fun w => hPi ((mh_r (by omega)).mp w).2
      refine ⟨hvx, nm_r (e' := upd s (16 * S 0 + i) (bo_i false)) (by rw [ex, bo_nar0]) ⟨hvx, ?_⟩⟩
      rw [ex, pk_us]
      refine br_t rfl (nm_r (nI_1 i) ?_)
      have := hn' _ (nxt _ hb)
      rw [cn_f (f := fun r => M (16 * S 0 + r)) (by show ¬ M (16 * S 0 + i) = true; rw [hb]; decide)] at this
      exact this
end
theorem i_vc_change {k : Nat} {u : SX} {v : SY} (I : i_Rel k u v) (hk : k + 6 ≤ 3072) (v1 : Int32) (v2 : Int32) (v3 : Int32) : wpX_change (fun r u' => wpY_change (fun r' v' => r' = r ∧ i_Rel (k + 6) u' v') v v1 v2 v3) u v1 v2 v3 := by
  rcases u with ⟨toX, soX, coX, ouX, kyX, moX, diX, rrX, rwX, ceX, rcX, unX, rqX, taX, acX, sceX, srcX, sunX, srqX, staX, sacX, stX, cfX, cpX, chX, csX, okX, ocX, koX, kfX, cbX, mkX, fvX, ovX, rsX, rtX⟩
  rcases v with ⟨opY, soY, coY, ouY, kyY, liY, diY, cmY, rrY, wiY, ceY, oceY, bceY, maY, omaY, bmaY, unY, rqY, bunY, brqY, rfY, acY, brfY, bacY, srY, csY, ccY, cpY, cwY, okY, osY, ocY, koY, ciY, kfY, cbY, goY, rsY, geY, keY⟩
  obtain ⟨hdb, hsv, hdr, hli, hre⟩ := I
  have keep := hdb
  have keepd := hdr
  obtain ⟨N, D, U, R, T, A, hx, hxk, hy, hyk, hK⟩ := hdb
  obtain ⟨ns, nc, no, nk, S, CS, CC, CO, CI, CW, OK, OS, OC, KO, ⟨rfl, rfl, rfl, rfl⟩, ⟨rfl, rfl, rfl, rfl⟩, hS, hc, ho, hq, hKd⟩ := hdr
  have hck : ck_c ns nc S CS CC CO CI CW := ⟨hKd.1.1, hKd.1.2.1, hKd.2.1, hKd.2.2.1⟩
  have hcx : cx_c nc CS CC CO CI CW cfX cpX chX csX := fun k hk => (hc k hk).1
  have hcy : cy_c nc CS CC CO CI CW csY ccY cpY ciY cwY := fun k hk => (hc k hk).2
  have hst : ∀ s, s < ns → stX s = nI (S s) := fun s hs => (hS s hs).1
  have hsr : ∀ s, s < ns → srY s = nI (S s) := fun s hs => (hS s hs).2
  have h3 := hKd.1.1
  have bad : (ns ≠ 1 ∨ (∀ j, j < 3 → v1 ≠ nI j) ∨ (∀ j, j < 3 → v2 ≠ nI j)) → wpY_change (fun r' v' => r' = -1 ∧ i_Rel (k + 6) (toX, nI ns, nI nc, nI no, nI nk, moX, diX, rrX, rwX, ceX, rcX, unX, rqX, taX, acX, sceX, srcX, sunX, srqX, staX, sacX, stX, cfX, cpX, chX, csX, okX, ocX, koX, kfX, cbX, mkX, fvX, ovX, rsX, rtX) v') (opY, nI ns, nI nc, nI no, nI nk, liY, diY, cmY, rrY, wiY, ceY, oceY, bceY, maY, omaY, bmaY, unY, rqY, bunY, brqY, rfY, acY, brfY, bacY, srY, csY, ccY, cpY, cwY, okY, osY, ocY, koY, ciY, kfY, cbY, goY, rsY, geY, keY) v1 v2 v3 := by
    intro hb
    have no' : ∀ {P : Prop} {a b : Nat}, ns = 1 → a < 3 → b < 3 → v1 = nI a → v2 = nI b → P := by
      intro P a b e ha hb' ea eb
      rcases hb with z | z | z
      · exact absurd e z
      · exact rg_no z ha ea
      · exact rg_no z hb' eb
    exact yv_change hy hyk hck hsr hcy (fun _ => ⟨rfl, keep, hsv, keepd, hli, hre⟩) (fun _ _ e a b ea eb => no' e a b ea eb) (fun _ _ e a b ea eb => no' e a b ea eb)
  refine pk_eq ns 1 (fun e => ?_) (fun e => bad (Or.inl e))
  subst e
  refine xm_out v1 (fun hout => br_f (by decide) (bad (Or.inr (Or.inl hout)))) (fun c hc3 e1 => br_t rfl (rg_le 2 (fun hout => bad (Or.inr (Or.inr hout))) (fun how hh e2 => ?_)))
  refine xm_mark hx hck hst hcx (fun cb mk hm => ?_)
  have ht : S 0 < 3 := hKd.2.1 0 (by decide)
  subst e1 e2
  have go : ∀ M, M = mh_B (S 0) (N (S 0)) (fun r => co_h D S (ro_w (256 * r)) CS CC CO CI CW nc) → (∀ x, x < 48 → mk x = bo_i (M x)) → wpX_changeMarkedRows (fun u => match u with | (toX, soX, coX, ouX, kyX, moX, diX, rrX, rwX, ceX, rcX, unX, rqX, taX, acX, sceX, srcX, sunX, srqX, staX, sacX, stX, cfX, cpX, chX, csX, okX, ocX, koX, kfX, cbX, mkX, fvX, ovX, rsX, rtX) => (wpX_changeViolates (fun r_81 => (((r_81 = 0 → ((fun r u' => wpY_change (fun r' v' => r' = r ∧ i_Rel (k + 6) u' v') (opY, nI 1, nI nc, nI no, nI nk, liY, diY, cmY, rrY, wiY, ceY, oceY, bceY, maY, omaY, bmaY, unY, rqY, bunY, brqY, rfY, acY, brfY, bacY, srY, csY, ccY, cpY, cwY, okY, osY, ocY, koY, ciY, kfY, cbY, goY, rsY, geY, keY) (nI c) (nI how) v3) (nI (cn_b (fun r => M (16 * S 0 + r)) (N (S 0)))) (toX, soX, coX, ouX, kyX, moX, diX, rrX, rwX, ceX, rcX, unX, rqX, taX, acX, sceX, srcX, sunX, srqX, staX, sacX, stX, cfX, cpX, chX, csX, okX, ocX, koX, kfX, cbX, mkX, fvX, ovX, rsX, rtX))) ∧ (¬ r_81 = 0 → (wpX_takeChangeBack (fun u => match u with | (toX, soX, coX, ouX, kyX, moX, diX, rrX, rwX, ceX, rcX, unX, rqX, taX, acX, sceX, srcX, sunX, srqX, staX, sacX, stX, cfX, cpX, chX, csX, okX, ocX, koX, kfX, cbX, mkX, fvX, ovX, rsX, rtX) => ((fun r u' => wpY_change (fun r' v' => r' = r ∧ i_Rel (k + 6) u' v') (opY, nI 1, nI nc, nI no, nI nk, liY, diY, cmY, rrY, wiY, ceY, oceY, bceY, maY, omaY, bmaY, unY, rqY, bunY, brqY, rfY, acY, brfY, bacY, srY, csY, ccY, cpY, cwY, okY, osY, ocY, koY, ciY, kfY, cbY, goY, rsY, geY, keY) (nI c) (nI how) v3) (-3) (toX, soX, coX, ouX, kyX, moX, diX, rrX, rwX, ceX, rcX, unX, rqX, taX, acX, sceX, srcX, sunX, srqX, staX, sacX, stX, cfX, cpX, chX, csX, okX, ocX, koX, kfX, cbX, mkX, fvX, ovX, rsX, rtX))) (toX, soX, coX, ouX, kyX, moX, diX, rrX, rwX, ceX, rcX, unX, rqX, taX, acX, sceX, srcX, sunX, srqX, staX, sacX, stX, cfX, cpX, chX, csX, okX, ocX, koX, kfX, cbX, mkX, fvX, ovX, rsX, rtX) (nI (3 * S 0 + c))))))) (toX, soX, coX, ouX, kyX, moX, diX, rrX, rwX, ceX, rcX, unX, rqX, taX, acX, sceX, srcX, sunX, srqX, staX, sacX, stX, cfX, cpX, chX, csX, okX, ocX, koX, kfX, cbX, mkX, fvX, ovX, rsX, rtX) (nI (3 * S 0 + c)))) (toX, nI 1, nI nc, nI no, nI nk, moX, diX, rrX, rwX, ceX, rcX, unX, rqX, taX, acX, sceX, srcX, sunX, srqX, staX, sacX, stX, cfX, cpX, chX, csX, okX, ocX, koX, kfX, cb, mk, fvX, ovX, rsX, rtX) (nI (3 * S 0 + c)) (nI how) v3 := by
    intro M hM hm
    have un : ∀ {a b : Nat}, a < 3 → b < 3 → nI c = nI a → nI how = nI b → a = c ∧ b = how := by
      intro a b ha hb ea eb
      rw [nI_eq (by omega) (by omega)] at ea eb
      exact ⟨ea.symm, eb.symm⟩
    have nob : ∀ {P : Prop}, ((1 : Nat) ≠ 1 ∨ (∀ j, j < 3 → nI c ≠ nI j) ∨ (∀ j, j < 3 → nI how ≠ nI j)) → P := by
      intro P z
      rcases z with z | z | z
      · exact absurd rfl z
      · exact rg_no z hc3 rfl
      · exact rg_no z hh rfl
    have hD : ∀ c' r, c' ≠ 3 * S 0 + c → ch_D D (3 * S 0 + c) M how v3 c' r = D c' r := fun c' r e => ch_o e
    have hall := ch_all hK (col := 3 * S 0 + c) (by omega) hD
    refine xm_chMarked hx hm (col := 3 * S 0 + c) (by omega) hh (fun ce fv hx' hf => ?_)
    refine xm_chViol hx' hxk (by omega) (fun f => br_t rfl ?_) (fun f => br_f (by decide) (xm_chBack hx' (by omega) hD hf (fun ce' hx2 => ?_)))
    · refine yv_change hy hyk hck hsr hcy nob (fun a b _ ha hb ea eb M' hM' f' ce' oce oma ge hy' => ?_) (fun a b _ ha hb ea eb M' hM' f' => ?_)
      · obtain ⟨rfl, rfl⟩ := un ha hb ea eb
        rw [← hM] at hM'
        subst hM'
        refine ⟨rfl, ⟨N, _, U, R, T, A, hx', hxk, hy', hyk, ⟨fun q hq => ⟨(hK.1 q hq).1, (hK.1 q hq).2.1, f' q hq⟩, fun q r hq hr => ?_⟩⟩, hsv, keepd, hli, hre⟩
        unfold ch_D
        split
        · exact ch_val
        · exact hK.2 q r hq hr
      · obtain ⟨rfl, rfl⟩ := un ha hb ea eb
        rw [← hM] at hM'
        subst hM'
        exact absurd (hall.mp f) f'
    · refine yv_change hy hyk hck hsr hcy nob (fun a b _ ha hb ea eb M' hM' f' => ?_) (fun a b _ ha hb ea eb M' hM' f' ce2 ma2 oce oma ge hy' => ?_)
      · obtain ⟨rfl, rfl⟩ := un ha hb ea eb
        rw [← hM] at hM'
        subst hM'
        exact absurd (hall.mpr f') f
      · exact ⟨rfl, ⟨N, D, U, R, T, A, hx2, hxk, hy', hyk, hK⟩, hsv, keepd, hli, hre⟩
  refine nm_r (e' := nI (3 * S 0 + c)) (by rw [hst 0 (by decide), nz_3]) ?_
  exact go _ rfl hm
