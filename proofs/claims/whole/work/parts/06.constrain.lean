section
variable {toX soX coX ouX kyX moX diX rrX rwX : Int32} {ceX sceX fvX ovX rsX : Nat → Int64} {rcX unX rqX taX acX srcX sunX srqX staX sacX stX cfX cpX chX csX okX ocX koX kfX cbX mkX rtX : Nat → Int32} {opY soY coY ouY kyY liY diY cmY rrY wiY : Int32} {ceY oceY bceY rsY : Nat → Int64} {maY omaY bmaY unY rqY bunY brqY rfY acY brfY bacY srY csY ccY cpY cwY okY osY ocY koY ciY kfY cbY goY geY keY : Nat → Int32} {N : Nat → Nat} {D : Nat → Nat → Int64} {U R : Nat → Bool} {T A : Nat → Nat}
def ub_n (g : Nat → Bool) (n : Nat) (b : Bool) : Nat → Bool := fun s => if s = n then b else g s
theorem dk_mod {U' R' : Nat → Bool} {T' A' : Nat → Nat} {un rq ta ac un' rq' ta' ac' : Nat → Int32} {c : Nat} (hk : db_k U R T A un rq ta ac)
    (hq : ∀ q, q ≠ c → (U' q = U q ∧ R' q = R q ∧ T' q = T q ∧ A' q = A q) ∧ un' q = un q ∧ rq' q = rq q ∧ ta' q = ta q ∧ ac' q = ac q)
    (hc : un' c = bo_i (U' c) ∧ rq' c = bo_i (R' c) ∧ ta' c = ta_i (T' c) ∧ ac' c = nI (A' c)) : db_k U' R' T' A' un' rq' ta' ac' := by
  intro q hq9
  by_cases e : q = c
  · rw [e]
    exact hc
  · obtain ⟨⟨a1, a2, a3, a4⟩, b1, b2, b3, b4⟩ := hq q e
    rw [a1, a2, a3, a4, b1, b2, b3, b4]
    exact hk q hq9
theorem dk_un (c : Nat) {un rq ta ac : Nat → Int32} (hc : c < 9) (hk : db_k U R T A un rq ta ac) : db_k (ub_n U c true) R T A (upd un (nI c).toNatClampNeg (vp_nar .boolean 1)) rq ta ac := by
  rw [nI_clamp (by omega)]
  refine dk_mod (c := c) hk (fun q hq => ⟨⟨if_neg hq, rfl, rfl, rfl⟩, pk_un hq, rfl, rfl, rfl⟩) ?_
  obtain ⟨a, b, d, e⟩ := hk c hc
  refine ⟨?_, b, d, e⟩
  rw [pk_us, ub_n, if_pos rfl, bo_nar1]
theorem dk_rq (c : Nat) {un rq ta ac : Nat → Int32} (hc : c < 9) (hk : db_k U R T A un rq ta ac) : db_k U (ub_n R c true) T A un (upd rq (nI c).toNatClampNeg (vp_nar .boolean 1)) ta ac := by
  rw [nI_clamp (by omega)]
  refine dk_mod (c := c) hk (fun q hq => ⟨⟨rfl, if_neg hq, rfl, rfl⟩, rfl, pk_un hq, rfl, rfl⟩) ?_
  obtain ⟨a, b, d, e⟩ := hk c hc
  refine ⟨a, ?_, d, e⟩
  rw [pk_us, ub_n, if_pos rfl, bo_nar1]
theorem dk_ta (c t w : Nat) {un rq ta ac : Nat → Int32} (hc : c < 9) (ht : t < 9) (hk : db_k U R T A un rq ta ac) : db_k U R (ex_n T c t) (ex_n A c w) un rq (upd ta (nI c).toNatClampNeg (nI t)) (upd ac (nI c).toNatClampNeg (nI w)) := by
  rw [nI_clamp (by omega)]
  refine dk_mod (c := c) hk (fun q hq => ⟨⟨rfl, rfl, if_neg hq, if_neg hq⟩, rfl, rfl, pk_un hq, pk_un hq⟩) ?_
  obtain ⟨a, b, d, e⟩ := hk c hc
  refine ⟨a, b, ?_, ?_⟩
  · rw [pk_us, ex_s, ta_lt ht]
  · rw [pk_us, ex_s]
theorem dk_fr (c : Nat) {un rq ta ac : Nat → Int32} (hc : c < 9) (hk : db_k U R T A un rq ta ac) : db_k (ub_n U c false) (ub_n R c false) (ex_n T c 9) A (upd un (nI c).toNatClampNeg (vp_nar .boolean 0)) (upd rq (nI c).toNatClampNeg (vp_nar .boolean 0)) (upd ta (nI c).toNatClampNeg (-1)) ac := by
  rw [nI_clamp (by omega)]
  refine dk_mod (c := c) hk (fun q hq => ⟨⟨if_neg hq, if_neg hq, if_neg hq, rfl⟩, pk_un hq, pk_un hq, pk_un hq, rfl⟩) ?_
  obtain ⟨a, b, d, e⟩ := hk c hc
  refine ⟨?_, ?_, ?_, e⟩
  · rw [pk_us, ub_n, if_pos rfl, bo_nar0]
  · rw [pk_us, ub_n, if_pos rfl, bo_nar0]
  · rw [pk_us, ex_s]
    rfl
theorem dk_back {un rq ta ac un' rq' ta' ac' : Nat → Int32} {c : Nat} (hc : c < 9) (hk : db_k U R T A un rq ta ac) (hq : ∀ q, q ≠ c → un' q = un q ∧ rq' q = rq q ∧ ta' q = ta q ∧ ac' q = ac q) :
    db_k U R T A (upd un' (nI c).toNatClampNeg (vp_nar .boolean (un c))) (upd rq' (nI c).toNatClampNeg (vp_nar .boolean (rq c))) (upd ta' (nI c).toNatClampNeg (ta c)) (upd ac' (nI c).toNatClampNeg (ac c)) := by
  rw [nI_clamp (by omega)]
  refine dk_mod (c := c) hk (fun q h => ?_) ?_
  · obtain ⟨a, b, d, e⟩ := hq q h
    rw [pk_un h, pk_un h, pk_un h, pk_un h]
    exact ⟨⟨rfl, rfl, rfl, rfl⟩, a, b, d, e⟩
  · obtain ⟨a, b, d, e⟩ := hk c hc
    rw [pk_us, pk_us, pk_us, pk_us, a, b, bo_nar, bo_nar]
    exact ⟨rfl, rfl, d, e⟩
/-! the data stay consistent under the new constraints -/
theorem dK_un {c : Nat} (h : db_K N D U R T A) (hu : fi_u N D c) : db_K N D (ub_n U c true) R T A := by
  refine ⟨fun q hq => ?_, h.2⟩
  obtain ⟨a, b, f⟩ := h.1 q hq
  refine ⟨a, fun z => ⟨(b z).1, ?_⟩, ?_⟩
  · by_cases e : T q = c
    · rw [e]; exact if_pos rfl
    · exact (if_neg e).trans (b z).2
  · by_cases e : q = c
    · subst e
      exact ⟨fun _ => hu, f.2⟩
    · rw [show ub_n U c true q = U q from if_neg e]
      exact f
theorem dK_rq {c : Nat} (h : db_K N D U R T A) (hu : fi_r N D c) : db_K N D U (ub_n R c true) T A := by
  refine ⟨fun q hq => ?_, h.2⟩
  obtain ⟨a, b, f⟩ := h.1 q hq
  refine ⟨a, b, f.1, fun z => ?_, f.2.2⟩
  by_cases e : q = c
  · subst e
    exact hu
  · rw [show ub_n R c true q = R q from if_neg e] at z
    exact f.2.1 z
theorem dK_ta {c t w : Nat} (h : db_K N D U R T A) (hw : w ≤ 2) (hne : t ≠ c) (hu : U t = true) (hs : fi_s N D t c) : db_K N D U R (ex_n T c t) (ex_n A c w) := by
  refine ⟨fun q hq => ?_, h.2⟩
  obtain ⟨a, b, f⟩ := h.1 q hq
  by_cases e : q = c
  · subst e
    rw [ex_s, ex_s]
    exact ⟨hw, fun _ => ⟨hne, hu⟩, f.1, f.2.1, fun _ => hs⟩
  · rw [show ex_n T c t q = T q from if_neg e, show ex_n A c w q = A q from if_neg e]
    exact ⟨a, b, f⟩
theorem dK_fr {c : Nat} (h : db_K N D U R T A) (hn : ∀ q, q < 9 → T q ≠ c) : db_K N D (ub_n U c false) (ub_n R c false) (ex_n T c 9) A := by
  refine ⟨fun q hq => ?_, h.2⟩
  obtain ⟨a, b, f⟩ := h.1 q hq
  by_cases e : q = c
  · subst e
    rw [ex_s]
    refine ⟨a, fun z => absurd z (by decide), fun z => ?_, fun z => ?_, fun z => absurd z (by decide)⟩
    · rw [show ub_n U q false q = false from if_pos rfl] at z
      exact absurd z (by decide)
    · rw [show ub_n R q false q = false from if_pos rfl] at z
      exact absurd z (by decide)
  · rw [show ex_n T c 9 q = T q from if_neg e, show ub_n U c false q = U q from if_neg e, show ub_n R c false q = R q from if_neg e]
    refine ⟨a, fun z => ⟨(b z).1, ?_⟩, f⟩
    exact (if_neg (hn q hq)).trans (b z).2
/-! X -/
theorem xm_makeUnique {post : Int32 → SX → Prop} (hC : db_xc N D ceX rcX) {c : Nat} (hc : c < 9) (h1 : fi_u N D c → post 0 (toX, soX, coX, ouX, kyX, moX, diX, rrX, rwX, ceX, rcX, upd unX (nI c).toNatClampNeg (vp_nar .boolean 1), rqX, taX, acX, sceX, srcX, sunX, srqX, staX, sacX, stX, cfX, cpX, chX, csX, okX, ocX, koX, kfX, cbX, mkX, fvX, ovX, rsX, rtX)) (h0 : ¬ fi_u N D c → post (-3) (toX, soX, coX, ouX, kyX, moX, diX, rrX, rwX, ceX, rcX, unX, rqX, taX, acX, sceX, srcX, sunX, srqX, staX, sacX, stX, cfX, cpX, chX, csX, okX, ocX, koX, kfX, cbX, mkX, fvX, ovX, rsX, rtX)) : wpX_makeUnique post (toX, soX, coX, ouX, kyX, moX, diX, rrX, rwX, ceX, rcX, unX, rqX, taX, acX, sceX, srcX, sunX, srqX, staX, sacX, stX, cfX, cpX, chX, csX, okX, ocX, koX, kfX, cbX, mkX, fvX, ovX, rsX, rtX) (nI c) := by
  refine xm_hasRepeated hC hc (fun h => ?_) (fun h => ?_)
  · exact br_f (by decide) (h0 h)
  · exact br_t rfl ⟨vp_in_nI hc (by decide), nm_e (h1 h)⟩
theorem xm_makeRequired {post : Int32 → SX → Prop} (hC : db_xc N D ceX rcX) {c : Nat} (hc : c < 9) (h1 : fi_r N D c → post 0 (toX, soX, coX, ouX, kyX, moX, diX, rrX, rwX, ceX, rcX, unX, upd rqX (nI c).toNatClampNeg (vp_nar .boolean 1), taX, acX, sceX, srcX, sunX, srqX, staX, sacX, stX, cfX, cpX, chX, csX, okX, ocX, koX, kfX, cbX, mkX, fvX, ovX, rsX, rtX)) (h0 : ¬ fi_r N D c → post (-3) (toX, soX, coX, ouX, kyX, moX, diX, rrX, rwX, ceX, rcX, unX, rqX, taX, acX, sceX, srcX, sunX, srqX, staX, sacX, stX, cfX, cpX, chX, csX, okX, ocX, koX, kfX, cbX, mkX, fvX, ovX, rsX, rtX)) : wpX_makeRequired post (toX, soX, coX, ouX, kyX, moX, diX, rrX, rwX, ceX, rcX, unX, rqX, taX, acX, sceX, srcX, sunX, srqX, staX, sacX, stX, cfX, cpX, chX, csX, okX, ocX, koX, kfX, cbX, mkX, fvX, ovX, rsX, rtX) (nI c) := by
  unfold wpX_makeRequired
  dsimp only
  refine xm_hasNull hC hc (fun h => ?_) (fun h => ?_)
  · exact br_f (by decide) (h0 h)
  · exact br_t rfl ⟨vp_in_nI hc (by decide), nm_e (h1 h)⟩
theorem xm_makeReference {post : Int32 → SX → Prop} (hC : db_xc N D ceX rcX) (hk : db_k U R T A unX rqX taX acX) {c t : Nat} (hc : c < 9) (ht : t < 9) {w : Int32} (hb : (t = c ∨ U t = false) → post (-1) (toX, soX, coX, ouX, kyX, moX, diX, rrX, rwX, ceX, rcX, unX, rqX, taX, acX, sceX, srcX, sunX, srqX, staX, sacX, stX, cfX, cpX, chX, csX, okX, ocX, koX, kfX, cbX, mkX, fvX, ovX, rsX, rtX)) (h1 : t ≠ c → U t = true → fi_s N D t c → post 0 (toX, soX, coX, ouX, kyX, moX, diX, rrX, rwX, ceX, rcX, unX, rqX, upd taX (nI c).toNatClampNeg (nI t), upd acX (nI c).toNatClampNeg w, sceX, srcX, sunX, srqX, staX, sacX, stX, cfX, cpX, chX, csX, okX, ocX, koX, kfX, cbX, mkX, fvX, ovX, rsX, rtX)) (h0 : t ≠ c → U t = true → ¬ fi_s N D t c → post (-3) (toX, soX, coX, ouX, kyX, moX, diX, rrX, rwX, ceX, rcX, unX, rqX, taX, acX, sceX, srcX, sunX, srqX, staX, sacX, stX, cfX, cpX, chX, csX, okX, ocX, koX, kfX, cbX, mkX, fvX, ovX, rsX, rtX)) : wpX_makeReference post (toX, soX, coX, ouX, kyX, moX, diX, rrX, rwX, ceX, rcX, unX, rqX, taX, acX, sceX, srcX, sunX, srqX, staX, sacX, stX, cfX, cpX, chX, csX, okX, ocX, koX, kfX, cbX, mkX, fvX, ovX, rsX, rtX) (nI c) (nI t) w := by
  refine pk_eq t c (fun e => hb (Or.inl e)) (fun e => ⟨vp_in_nI ht (by decide), ?_⟩)
  rw [nI_clamp (by omega), (hk t ht).1]
  by_cases hu : U t = true
  · refine br_f (bo_n.mpr hu) (xm_hasStray hC hc ht (fun h => ?_) (fun h => ?_))
    · exact br_f (by decide) (h0 e hu h)
    · exact br_t rfl ⟨vp_in_nI hc (by decide), nm_e ⟨vp_in_nI hc (by decide), nm_e (h1 e hu h)⟩⟩
  · exact br_t (bo_0.mpr (by simpa using hu)) (hb (Or.inr (by simpa using hu)))
theorem xm_makeFree {post : Int32 → SX → Prop} (hk : db_k U R T A unX rqX taX acX) {c : Nat} (hc : c < 9) (h1 : (∃ q, q < 9 ∧ T q = c) → post (-1) (toX, soX, coX, ouX, kyX, moX, diX, rrX, rwX, ceX, rcX, unX, rqX, taX, acX, sceX, srcX, sunX, srqX, staX, sacX, stX, cfX, cpX, chX, csX, okX, ocX, koX, kfX, cbX, mkX, fvX, ovX, rsX, rtX)) (h0 : (∀ q, q < 9 → T q ≠ c) → post 0 (toX, soX, coX, ouX, kyX, moX, diX, rrX, rwX, ceX, rcX, upd unX (nI c).toNatClampNeg (vp_nar .boolean 0), upd rqX (nI c).toNatClampNeg (vp_nar .boolean 0), upd taX (nI c).toNatClampNeg (-1), acX, sceX, srcX, sunX, srqX, staX, sacX, stX, cfX, cpX, chX, csX, okX, ocX, koX, kfX, cbX, mkX, fvX, ovX, rsX, rtX)) : wpX_makeFree post (toX, soX, coX, ouX, kyX, moX, diX, rrX, rwX, ceX, rcX, unX, rqX, taX, acX, sceX, srcX, sunX, srqX, staX, sacX, stX, cfX, cpX, chX, csX, okX, ocX, koX, kfX, cbX, mkX, fvX, ovX, rsX, rtX) (nI c) := by
  have hi9 : vp_in (nI c) 9 := vp_in_nI hc (by decide)
  refine loop_0 (fun n i (_ : Unit) => wX_makeFree_2 post (nI c) toX soX coX ouX kyX moX diX rrX rwX ceX rcX unX rqX taX acX sceX srcX sunX srqX staX sacX stX cfX cpX chX csX okX ocX koX kfX cbX mkX fvX ovX rsX rtX n (nI i)) (fun i _ => ∀ q, q < i → T q ≠ c) 9 () (fun q hq => absurd hq (Nat.not_lt_zero q)) ?_ ?_
  · intro n _ hI
    exact br_t (by decide) ⟨hi9, nm_e ⟨hi9, nm_e ⟨hi9, nm_e (h0 hI)⟩⟩⟩
  · intro n i _ hi hI hn
    refine br_f (nI_ge (b := 9) hi (by decide)) ⟨vp_in_nI hi (by decide), ?_⟩
    rw [nI_clamp (by omega), (hk i hi).2.2.1]
    by_cases e : T i = c
    · exact br_t ((ta_eq hc).mpr e) (h1 ⟨i, hi, e⟩)
    · exact br_f (fun z => e ((ta_eq hc).mp z)) (nm_r (nI_1 i) (hn () (lt_s hI e)))
/-! Y -/
theorem ym_clear {post : Int32 → SY → Prop} (hk : db_k U R T A unY rqY rfY acY) {c : Nat} (hc : c < 9) (h1 : (∃ q, q < 9 ∧ T q = c) → post (-1) (opY, soY, coY, ouY, kyY, liY, diY, cmY, rrY, wiY, ceY, oceY, bceY, maY, omaY, bmaY, unY, rqY, bunY, brqY, rfY, acY, brfY, bacY, srY, csY, ccY, cpY, cwY, okY, osY, ocY, koY, ciY, kfY, cbY, goY, rsY, geY, keY)) (h0 : (∀ q, q < 9 → T q ≠ c) → post 0 (opY, soY, coY, ouY, kyY, liY, diY, cmY, rrY, wiY, ceY, oceY, bceY, maY, omaY, bmaY, upd unY (nI c).toNatClampNeg (vp_nar .boolean 0), upd rqY (nI c).toNatClampNeg (vp_nar .boolean 0), bunY, brqY, upd rfY (nI c).toNatClampNeg (-1), acY, brfY, bacY, srY, csY, ccY, cpY, cwY, okY, osY, ocY, koY, ciY, kfY, cbY, goY, rsY, geY, keY)) : wpY_clear post (opY, soY, coY, ouY, kyY, liY, diY, cmY, rrY, wiY, ceY, oceY, bceY, maY, omaY, bmaY, unY, rqY, bunY, brqY, rfY, acY, brfY, bacY, srY, csY, ccY, cpY, cwY, okY, osY, ocY, koY, ciY, kfY, cbY, goY, rsY, geY, keY) (nI c) := by
  have hi9 : vp_in (nI c) 9 := vp_in_nI hc (by decide)
  refine loop_0 (fun n i (_ : Unit) => wY_clear_2 post (nI c) opY soY coY ouY kyY liY diY cmY rrY wiY ceY oceY bceY maY omaY bmaY unY rqY bunY brqY rfY acY brfY bacY srY csY ccY cpY cwY okY osY ocY koY ciY kfY cbY goY rsY geY keY n (nI i)) (fun i _ => ∀ q, q < i → T q ≠ c) 9 () (fun q hq => absurd hq (Nat.not_lt_zero q)) ?_ ?_
  · intro n _ hI
    exact br_t (by decide) ⟨hi9, nm_e ⟨hi9, nm_e ⟨hi9, nm_e (h0 hI)⟩⟩⟩
  · intro n i _ hi hI hn
    refine br_f (nI_ge (b := 9) hi (by decide)) ⟨vp_in_nI hi (by decide), ?_⟩
    rw [nI_clamp (by omega), (hk i hi).2.2.1]
    by_cases e : T i = c
    · exact br_t ((ta_eq hc).mpr e) (h1 ⟨i, hi, e⟩)
    · exact br_f (fun z => e ((ta_eq hc).mp z)) (nm_r (nI_1 i) (hn () (lt_s hI e)))
theorem ym_con184 {post : Int32 → SY → Prop} {U' R' : Nat → Bool} {T' A' : Nat → Nat} (hC : db_yc N D ceY maY) (hk : db_k U' R' T' A' unY rqY rfY acY) {c : Nat} (hc : c < 9) {x7 x8 x9 x10 : Int32} (h1 : fi_t N D (U' c) (R' c) (T' c) c → post 0 (opY, soY, coY, ouY, kyY, liY, diY, cmY, rrY, wiY, ceY, oceY, bceY, maY, omaY, bmaY, unY, rqY, bunY, brqY, rfY, acY, brfY, bacY, srY, csY, ccY, cpY, cwY, okY, osY, ocY, koY, ciY, kfY, cbY, goY, rsY, geY, keY)) (h0 : ¬ fi_t N D (U' c) (R' c) (T' c) c → post (-3) (opY, soY, coY, ouY, kyY, liY, diY, cmY, rrY, wiY, ceY, oceY, bceY, maY, omaY, bmaY, upd unY (nI c).toNatClampNeg (vp_nar .boolean x7), upd rqY (nI c).toNatClampNeg (vp_nar .boolean x8), bunY, brqY, upd rfY (nI c).toNatClampNeg x9, upd acY (nI c).toNatClampNeg x10, brfY, bacY, srY, csY, ccY, cpY, cwY, okY, osY, ocY, koY, ciY, kfY, cbY, goY, rsY, geY, keY)) : wY_constrain_184 post (nI c) x7 x8 x9 x10 opY soY coY ouY kyY liY diY cmY rrY wiY ceY oceY bceY maY omaY bmaY unY rqY bunY brqY rfY acY brfY bacY srY csY ccY cpY cwY okY osY ocY koY ciY kfY cbY goY rsY geY keY := by
  have hi9 : vp_in (nI c) 9 := vp_in_nI hc (by decide)
  refine ym_fits hC hk hc (fun h => ?_) (fun h => ?_)
  · exact br_f (by decide) (h1 h)
  · exact br_t rfl ⟨hi9, nm_e ⟨hi9, nm_e ⟨hi9, nm_e ⟨hi9, nm_e (h0 h)⟩⟩⟩⟩
theorem ym_con {post : Int32 → SY → Prop} (hC : db_yc N D ceY maY) (hk : db_k U R T A unY rqY rfY acY) (hK : db_K N D U R T A) {j1 j2 j3 : Nat} {v4 v5 : Int32} (h1 : j1 < 3) (h2 : j2 < 3) (h3 : j3 < 6)
    (p0 : j3 = 0 → fi_u N D (3 * j1 + j2) → post 0 (opY, soY, coY, ouY, kyY, liY, diY, cmY, rrY, wiY, ceY, oceY, bceY, maY, omaY, bmaY, upd unY (nI (3 * j1 + j2)).toNatClampNeg (vp_nar .boolean 1), rqY, bunY, brqY, rfY, acY, brfY, bacY, srY, csY, ccY, cpY, cwY, okY, osY, ocY, koY, ciY, kfY, cbY, goY, rsY, geY, keY))
    (p1 : j3 = 1 → fi_r N D (3 * j1 + j2) → post 0 (opY, soY, coY, ouY, kyY, liY, diY, cmY, rrY, wiY, ceY, oceY, bceY, maY, omaY, bmaY, unY, upd rqY (nI (3 * j1 + j2)).toNatClampNeg (vp_nar .boolean 1), bunY, brqY, rfY, acY, brfY, bacY, srY, csY, ccY, cpY, cwY, okY, osY, ocY, koY, ciY, kfY, cbY, goY, rsY, geY, keY))
    (pv : (j3 = 0 → ¬ fi_u N D (3 * j1 + j2)) → (j3 = 1 → ¬ fi_r N D (3 * j1 + j2)) → j3 ≠ 5 → (1 < j3 → ∃ j4 j5, j4 < 3 ∧ j5 < 3 ∧ v4 = nI j4 ∧ v5 = nI j5 ∧ 3 * j4 + j5 ≠ 3 * j1 + j2 ∧ U (3 * j4 + j5) = true ∧ ¬ fi_s N D (3 * j4 + j5) (3 * j1 + j2)) → ∀ un' rq' rf' ac', db_k U R T A un' rq' rf' ac' → post (-3) (opY, soY, coY, ouY, kyY, liY, diY, cmY, rrY, wiY, ceY, oceY, bceY, maY, omaY, bmaY, un', rq', bunY, brqY, rf', ac', brfY, bacY, srY, csY, ccY, cpY, cwY, okY, osY, ocY, koY, ciY, kfY, cbY, goY, rsY, geY, keY))
    (p2 : 1 < j3 → j3 ≠ 5 → ∀ j4 j5, j4 < 3 → j5 < 3 → v4 = nI j4 → v5 = nI j5 → 3 * j4 + j5 ≠ 3 * j1 + j2 → U (3 * j4 + j5) = true → fi_s N D (3 * j4 + j5) (3 * j1 + j2) → post 0 (opY, soY, coY, ouY, kyY, liY, diY, cmY, rrY, wiY, ceY, oceY, bceY, maY, omaY, bmaY, unY, rqY, bunY, brqY, upd rfY (nI (3 * j1 + j2)).toNatClampNeg (nI (3 * j4 + j5)), upd acY (nI (3 * j1 + j2)).toNatClampNeg (nI (j3 - 2)), brfY, bacY, srY, csY, ccY, cpY, cwY, okY, osY, ocY, koY, ciY, kfY, cbY, goY, rsY, geY, keY))
    (pb : 1 < j3 → j3 ≠ 5 → ((∀ j, j < 3 → v4 ≠ nI j) ∨ (∀ j, j < 3 → v5 ≠ nI j) ∨ ∃ j4 j5, j4 < 3 ∧ j5 < 3 ∧ v4 = nI j4 ∧ v5 = nI j5 ∧ (3 * j4 + j5 = 3 * j1 + j2 ∨ U (3 * j4 + j5) = false)) → post (-1) (opY, soY, coY, ouY, kyY, liY, diY, cmY, rrY, wiY, ceY, oceY, bceY, maY, omaY, bmaY, unY, rqY, bunY, brqY, rfY, acY, brfY, bacY, srY, csY, ccY, cpY, cwY, okY, osY, ocY, koY, ciY, kfY, cbY, goY, rsY, geY, keY))
    (p5 : j3 = 5 → (∃ q, q < 9 ∧ T q = 3 * j1 + j2) → post (-1) (opY, soY, coY, ouY, kyY, liY, diY, cmY, rrY, wiY, ceY, oceY, bceY, maY, omaY, bmaY, unY, rqY, bunY, brqY, rfY, acY, brfY, bacY, srY, csY, ccY, cpY, cwY, okY, osY, ocY, koY, ciY, kfY, cbY, goY, rsY, geY, keY))
    (p6 : j3 = 5 → (∀ q, q < 9 → T q ≠ 3 * j1 + j2) → post 0 (opY, soY, coY, ouY, kyY, liY, diY, cmY, rrY, wiY, ceY, oceY, bceY, maY, omaY, bmaY, upd unY (nI (3 * j1 + j2)).toNatClampNeg (vp_nar .boolean 0), upd rqY (nI (3 * j1 + j2)).toNatClampNeg (vp_nar .boolean 0), bunY, brqY, upd rfY (nI (3 * j1 + j2)).toNatClampNeg (-1), acY, brfY, bacY, srY, csY, ccY, cpY, cwY, okY, osY, ocY, koY, ciY, kfY, cbY, goY, rsY, geY, keY)) :
    wpY_constrain post (opY, soY, coY, ouY, kyY, liY, diY, cmY, rrY, wiY, ceY, oceY, bceY, maY, omaY, bmaY, unY, rqY, bunY, brqY, rfY, acY, brfY, bacY, srY, csY, ccY, cpY, cwY, okY, osY, ocY, koY, ciY, kfY, cbY, goY, rsY, geY, keY) (nI j1) (nI j2) (nI j3) v4 v5 := by
  unfold wpY_constrain
  dsimp only
  refine ym_within (n := 3) (by decide) (fun z => rg_no z h1 rfl) (fun _ _ _ => br_f (by decide) (ym_within (n := 3) (by decide) (fun z => rg_no z h2 rfl) (fun _ _ _ => br_f (by decide) (ym_within (n := 6) (by decide) (fun z => rg_no z h3 rfl) (fun _ _ _ => br_f (by decide) (nm_r (nz_3 j1 j2) ?_))))))
  have hc : 3 * j1 + j2 < 9 := by omega
  generalize 3 * j1 + j2 = c at *
  have hi9 : vp_in (nI c) 9 := vp_in_nI hc (by decide)
  have ec : (nI c).toNatClampNeg = c := nI_clamp (by omega)
  obtain ⟨_, _, ff⟩ := hK.1 c hc
  refine pk_eq j3 5 (fun e => ?_) (fun ne5 => ?_)
  · exact ym_clear hk hc (fun h => p5 e h) (fun h => p6 e h)
  · refine ⟨hi9, nm_e ⟨hi9, nm_e ⟨hi9, nm_e ⟨hi9, nm_e ?_⟩⟩⟩⟩
    rw [show unY (nI c).toNatClampNeg = unY c by rw [ec], show rqY (nI c).toNatClampNeg = rqY c by rw [ec], show rfY (nI c).toNatClampNeg = rfY c by rw [ec], show acY (nI c).toNatClampNeg = acY c by rw [ec]]
    refine pk_le j3 1 (fun h => pk_eq j3 0 (fun e => ?_) (fun ne0 => ?_)) (fun h => ?_)
    · refine ⟨hi9, nm_e (ym_con184 hC (dk_un c hc hk) hc (fun z => ?_) (fun z => ?_))⟩
      · rw [show ub_n U c true c = true from if_pos rfl] at z
        exact p0 e (z.1 rfl)
      · rw [show ub_n U c true c = true from if_pos rfl] at z
        refine pv (fun _ w => z ⟨fun _ => w, ff.2⟩) (fun e1 => absurd e1 (by omega)) ne5 (fun z => absurd z (by omega)) _ _ _ _ (dk_back hc hk (fun q hq => ⟨?_, rfl, rfl, rfl⟩))
        rw [ec]
        exact pk_un hq
    · refine ⟨hi9, nm_e (ym_con184 hC (dk_rq c hc hk) hc (fun z => ?_) (fun z => ?_))⟩
      · rw [show ub_n R c true c = true from if_pos rfl] at z
        exact p1 (by omega) (z.2.1 rfl)
      · rw [show ub_n R c true c = true from if_pos rfl] at z
        refine pv (fun e1 => absurd e1 ne0) (fun _ w => z ⟨ff.1, fun _ => w, ff.2.2⟩) ne5 (fun z => absurd z (by omega)) _ _ _ _ (dk_back hc hk (fun q hq => ⟨rfl, ?_, rfl, rfl⟩))
        rw [ec]
        exact pk_un hq
    · refine ym_within (n := 3) (by decide) (fun z => br_t rfl (pb h ne5 (Or.inl z))) (fun j4 h4 e4 => br_f (by decide) (ym_within (n := 3) (by decide) (fun z => br_t rfl (pb h ne5 (Or.inr (Or.inl z)))) (fun j5 h5 e5 => br_f (by decide) ?_)))
      subst e4 e5
      rw [nz_3]
      refine pk_eq (3 * j4 + j5) c (fun e => pb h ne5 (Or.inr (Or.inr ⟨j4, j5, h4, h5, rfl, rfl, Or.inl e⟩))) (fun nec => ⟨vp_in_nI (by omega) (by decide), ?_⟩)
      rw [show unY (nI (3 * j4 + j5)).toNatClampNeg = bo_i (U (3 * j4 + j5)) by rw [nI_clamp (by omega)]; exact (hk _ (by omega)).1]
      by_cases hu : U (3 * j4 + j5) = true
      · refine br_f (bo_n.mpr hu) ⟨hi9, nm_e ⟨hi9, nm_r (congrArg (upd acY _) (show nI j3 - 2 = nI (j3 - 2) from pk_sub (b := 2) h)) (ym_con184 hC (dk_ta c (3 * j4 + j5) (j3 - 2) hc (by omega) hk) hc (fun z => ?_) (fun z => ?_))⟩⟩
        · rw [ex_s] at z
          exact p2 h ne5 j4 j5 h4 h5 rfl rfl nec hu (z.2.2 (by omega))
        · rw [ex_s] at z
          refine pv (fun e1 => absurd e1 (by omega)) (fun e1 => absurd e1 (by omega)) ne5 (fun _ => ⟨j4, j5, h4, h5, rfl, rfl, nec, hu, fun w => z ⟨ff.1, ff.2.1, fun _ => w⟩⟩) _ _ _ _ (dk_back hc hk (fun q hq => ⟨rfl, rfl, ?_, ?_⟩))
          · rw [ec]
            exact pk_un hq
          · rw [ec]
            exact pk_un hq
      · exact br_t (bo_0.mpr (by simpa using hu)) (pb h ne5 (Or.inr (Or.inr ⟨j4, j5, h4, h5, rfl, rfl, Or.inr (by simpa using hu)⟩)))
end
