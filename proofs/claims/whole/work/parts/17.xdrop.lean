section
variable {toX soX coX ouX kyX moX diX rrX rwX : Int32} {ceX sceX fvX ovX rsX : Nat → Int64} {rcX unX rqX taX acX srcX sunX srqX staX sacX stX cfX cpX chX csX okX ocX koX kfX cbX mkX rtX : Nat → Int32} {N : Nat → Nat} {D : Nat → Nat → Int64} {U R : Nat → Bool} {T A : Nat → Nat} {M M0 : Nat → Bool}
/-- while X clears: what is not yet come to, and what is marked, is as it was -/
def cw_I (N : Nat → Nat) (D E : Nat → Nat → Int64) (M : Nat → Bool) (c0 i0 : Nat) (s : Nat → Int64) : Prop :=
  (∀ c r, c < 9 → r < N (c / 3) → (M (16 * (c / 3) + r) = true ∨ c0 < c ∨ (c = c0 ∧ i0 ≤ r)) → s (16 * c + r) = D c r) ∧ (∀ c r, c < 9 → r < N (c / 3) → M (16 * (c / 3) + r) = false → (c < c0 ∨ (c = c0 ∧ r < i0)) → s (16 * c + r) = E c r)
theorem cw_or {E : Nat → Nat → Int64} (hE : ∀ c r, E c r = nu_l ∨ E c r = D c r) {c0 i0 : Nat} {s : Nat → Int64} (h : cw_I N D E M c0 i0 s) {c r : Nat} (hc : c < 9) (hr : r < N (c / 3)) : s (16 * c + r) = nu_l ∨ s (16 * c + r) = D c r := by
  cases hm : M (16 * (c / 3) + r) with
  | true => exact Or.inr (h.1 c r hc hr (Or.inl hm))
  | false =>
    by_cases z : c < c0 ∨ (c = c0 ∧ r < i0)
    · rw [h.2 c r hc hr hm z]
      exact hE c r
    · exact Or.inr (h.1 c r hc hr (Or.inr (by omega)))
theorem cw_fu {E : Nat → Nat → Int64} (hE : ∀ c r, E c r = nu_l ∨ E c r = D c r) {c0 i0 : Nat} {s : Nat → Int64} (h : cw_I N D E M c0 i0 s) {c : Nat} (hc : c < 9) (hu : fi_u N D c) : fi_u N (fun c r => s (16 * c + r)) c := by
  intro i j hj hi hv e
  dsimp only at hv e
  have h1 : s (16 * c + i) = D c i := by
    rcases cw_or hE h hc hi with z | z
    · exact absurd z hv
    · exact z
  have h2 : s (16 * c + j) = D c j := by
    rcases cw_or hE h hc (show j < N (c / 3) by omega) with z | z
    · rw [e, z] at hv
      exact absurd rfl hv
    · exact z
  rw [h1] at hv e
  rw [h2] at e
  exact hu i j hj hi hv e
theorem cw_lo {E : Nat → Nat → Int64} {c i : Nat} {s : Nat → Int64} (h : cw_I N D E M c i s) (hc : c < 9) (hi : i < N (c / 3)) : lo_p N (fun c r => s (16 * c + r)) T M c i ↔ lo_p N D T M c i := by
  have e : s (16 * c + i) = D c i := h.1 c i hc hi (Or.inr (Or.inr ⟨rfl, Nat.le_refl _⟩))
  unfold lo_p
  dsimp only
  rw [e]
  constructor
  · rintro ⟨a, b, j, hj, mj, ej⟩
    rw [h.1 (T c) j b hj (Or.inl mj)] at ej
    exact ⟨a, b, j, hj, mj, ej⟩
  · rintro ⟨a, b, j, hj, mj, ej⟩
    refine ⟨a, b, j, hj, mj, ?_⟩
    rw [h.1 (T c) j b hj (Or.inl mj)]
    exact ej
theorem cw_keep {E : Nat → Nat → Int64} {c i : Nat} {s : Nat → Int64} (h : cw_I N D E M c i s) (hc : c < 9) (hi : i < N (c / 3)) (e : M (16 * (c / 3) + i) = false → E c i = D c i) : cw_I N D E M c (i + 1) s := by
  refine ⟨fun c' r hc' hr z => h.1 c' r hc' hr (z.imp id (fun y => by omega)), fun c' r hc' hr hm z => ?_⟩
  by_cases y : c' = c ∧ r = i
  · obtain ⟨rfl, rfl⟩ := y
    rw [e hm]
    exact h.1 c' r hc' hr (by omega)
  · exact h.2 c' r hc' hr hm (by omega)
theorem cw_put {E : Nat → Nat → Int64} (h16 : ∀ t, t < 3 → N t ≤ 16) {c i : Nat} {s : Nat → Int64} (h : cw_I N D E M c i s) (hc : c < 9) (hi : i < N (c / 3)) (hm : M (16 * (c / 3) + i) = false) (e : E c i = nu_l) : cw_I N D E M c (i + 1) (vp_updL s (16 * c + i) nu_l) := by
  have hN := h16 (c / 3) (by omega)
  refine ⟨fun c' r hc' hr z => ?_, fun c' r hc' hr hm' z => ?_⟩
  · have hN' := h16 (c' / 3) (by omega)
    rw [pk_uLn]
    · exact h.1 c' r hc' hr (z.imp id (fun y => by omega))
    · intro y
      have e1 : c' = c := by omega
      have e2 : r = i := by omega
      subst e1 e2
      rcases z with z | z | z
      · rw [hm] at z
        exact absurd z (by decide)
      · omega
      · omega
  · have hN' := h16 (c' / 3) (by omega)
    by_cases y : c' = c ∧ r = i
    · obtain ⟨rfl, rfl⟩ := y
      rw [pk_uLs, e]
    · rw [pk_uLn (by omega)]
      exact h.2 c' r hc' hr hm' (by omega)
theorem cw_next {E : Nat → Nat → Int64} {c : Nat} {s : Nat → Int64} (h : cw_I N D E M c (N (c / 3)) s) : cw_I N D E M (c + 1) 0 s := by
  refine ⟨fun c' r hc' hr z => h.1 c' r hc' hr (z.imp id (fun y => by omega)), fun c' r hc' hr hm z => h.2 c' r hc' hr hm ?_⟩
  by_cases e : c' = c
  · subst e
    exact Or.inr ⟨rfl, hr⟩
  · omega
theorem xm_clear {post : SX → Prop} (hC : db_xc N D ceX rcX) (hk : db_k U R T A unX rqX taX acX) (hm : ∀ x, x < 48 → mkX x = bo_i (M x)) (hu : ∀ c, c < 9 → T c < 9 → fi_u N D (T c)) (hA : ∀ c, c < 9 → A c ≤ 2)
    (h : ∀ ce, (∀ c r, c < 9 → r < N (c / 3) → M (16 * (c / 3) + r) = false → ce (16 * c + r) = cl_D N D T A M c r) → post (toX, soX, coX, ouX, kyX, moX, diX, rrX, rwX, ce, rcX, unX, rqX, taX, acX, sceX, srcX, sunX, srqX, staX, sacX, stX, cfX, cpX, chX, csX, okX, ocX, koX, kfX, cbX, mkX, fvX, ovX, rsX, rtX)) : wpX_clearWhatRefersToMarked post (toX, soX, coX, ouX, kyX, moX, diX, rrX, rwX, ceX, rcX, unX, rqX, taX, acX, sceX, srcX, sunX, srqX, staX, sacX, stX, cfX, cpX, chX, csX, okX, ocX, koX, kfX, cbX, mkX, fvX, ovX, rsX, rtX) := by
  have h16 : ∀ t, t < 3 → N t ≤ 16 := fun t ht => (hC.1 t ht).2
  refine loop_0 (fun n c s => wX_clearWhatRefersToMarked_2 post toX soX coX ouX kyX moX diX rrX rwX n (nI c) s rcX unX rqX taX acX sceX srcX sunX srqX staX sacX stX cfX cpX chX csX okX ocX koX kfX cbX mkX fvX ovX rsX rtX) (fun c s => cw_I N D (cl_D N D T A M) M c 0 s) 9 ceX ⟨fun c r hc hr _ => hC.2 c r hc hr, fun c r _ _ _ z => absurd z (by omega)⟩ ?_ ?_
  · intro n s hI
    exact br_t (by decide) (h s (fun c r hc hr hm' => hI.2 c r hc hr hm' (Or.inl hc)))
  · intro n c s hc hI hn'
    obtain ⟨hn, hN⟩ := hC.1 (c / 3) (by omega)
    refine br_f (nI_ge (b := 9) hc (by decide)) ⟨nz_3ne, by rw [nz_d3 (by omega)]; exact vp_in_nI (by omega) (by decide), nm_r (e' := nI (N (c / 3))) (by rw [nz_d3 (by omega), nI_clamp (by omega), hn]) ?_⟩
    refine loop_0 (fun m i s => wX_clearWhatRefersToMarked_19 post (wX_clearWhatRefersToMarked_2 post toX soX coX ouX kyX moX diX rrX rwX n) (nI c) (nI (N (c / 3))) toX soX coX ouX kyX moX diX rrX rwX m (nI i) s rcX unX rqX taX acX sceX srcX sunX srqX staX sacX stX cfX cpX chX csX okX ocX koX kfX cbX mkX fvX ovX rsX rtX) (fun i s => cw_I N D (cl_D N D T A M) M c i s) (N (c / 3)) s hI ?_ ?_
    · intro m s hJ
      exact br_t (nI_le (Nat.le_refl _) (by omega)) (nm_r (nI_1 c) (hn' s (cw_next hJ)))
    · intro m i s hi hJ hm'
      refine br_f (nI_ge hi (by omega)) ⟨vp_in_nI hc (by decide), ?_⟩
      rw [nI_clamp (show c < 2 ^ 31 by omega), (hk c hc).2.2.2]
      have hA' := hA c hc
      by_cases a2 : A c = 2
      · refine br_t (by rw [a2]; rfl) ?_
        refine xm_loses (D := fun c r => s (16 * c + r)) ⟨hC.1, fun _ _ _ _ => rfl⟩ hk hm (fun ht => cw_fu cl_or hJ ht (hu c hc ht)) hc hi (fun mi li => ?_) (fun z => ?_)
        · refine br_f (by decide) ⟨by rw [nz_16]; exact vp_in_nI (by omega) (by decide), nm_r (e' := vp_updL s (16 * c + i) nu_l) (by rw [nz_16, nI_clamp (by omega)]) (nm_r (nI_1 i) (hm' _ (cw_put h16 hJ hc hi mi (cl_t ⟨a2, (cw_lo hJ hc hi).mp li⟩))))⟩
        · exact br_t rfl (nm_r (nI_1 i) (hm' s (cw_keep hJ hc hi (fun mi => cl_f (fun w => z ⟨mi, (cw_lo hJ hc hi).mpr w.2⟩)))))
      · exact br_f (op_ne (b := 2) (by omega) (by decide) a2) (nm_r (nI_1 i) (hm' s (cw_keep hJ hc hi (fun _ => cl_f (fun w => a2 w.1)))))
theorem xm_copy {post : SX → Prop} {t a b : Nat} (ht : t < 3) (ha : a < 16) (hb : b < 16) (h : ∀ ce, (∀ c r, c < 9 → r < 16 → ce (16 * c + r) = if c / 3 = t ∧ r = b then ceX (16 * c + a) else ceX (16 * c + r)) → post (toX, soX, coX, ouX, kyX, moX, diX, rrX, rwX, ce, rcX, unX, rqX, taX, acX, sceX, srcX, sunX, srqX, staX, sacX, stX, cfX, cpX, chX, csX, okX, ocX, koX, kfX, cbX, mkX, fvX, ovX, rsX, rtX)) : wpX_copyRow post (toX, soX, coX, ouX, kyX, moX, diX, rrX, rwX, ceX, rcX, unX, rqX, taX, acX, sceX, srcX, sunX, srqX, staX, sacX, stX, cfX, cpX, chX, csX, okX, ocX, koX, kfX, cbX, mkX, fvX, ovX, rsX, rtX) (nI t) (nI a) (nI b) := by
  refine loop_0 (fun n d s => wX_copyRow_3 post (nI t) (nI a) (nI b) toX soX coX ouX kyX moX diX rrX rwX n (nI d) s rcX unX rqX taX acX sceX srcX sunX srqX staX sacX stX cfX cpX chX csX okX ocX koX kfX cbX mkX fvX ovX rsX rtX) (fun d s => ∀ c r, c < 9 → r < 16 → s (16 * c + r) = if c / 3 = t ∧ c % 3 < d ∧ r = b then ceX (16 * c + a) else ceX (16 * c + r)) 3 ceX (fun c r _ _ => by rw [if_neg (by omega)]) ?_ ?_
  · intro n s hI
    refine br_t (by decide) (h s (fun c r hc hr => ?_))
    rw [hI c r hc hr]
    by_cases z : c / 3 = t ∧ r = b
    · rw [if_pos z, if_pos (by omega)]
    · rw [if_neg z, if_neg (by omega)]
  · intro n d s hd hI hn
    have e1 : 16 * ((3 * nI t) + nI d) = nI (16 * (3 * t + d)) := by rw [nz_3, nz_16m]
    refine br_f (nI_ge (b := 3) hd (by decide)) (nm_r e1 ?_)
    rw [nI_add, nI_add, nI_clamp (by omega), nI_clamp (by omega)]
    refine ⟨vp_in_nI (by omega) (by decide), vp_in_nI (by omega) (by decide), nm_e (nm_r (nI_1 d) (hn _ (fun c r hc hr => ?_)))⟩
    by_cases z : c = 3 * t + d ∧ r = b
    · obtain ⟨rfl, rfl⟩ := z
      rw [pk_uLs, hI _ a hc ha, if_neg (by omega), if_pos (by omega)]
    · rw [pk_uLn (by omega), hI c r hc hr]
      by_cases y : c / 3 = t ∧ c % 3 < d ∧ r = b
      · rw [if_pos y, if_pos (by omega)]
      · rw [if_neg y, if_neg (by omega)]
/-- while the tables shrink one behind another -/
def dp_I (N : Nat → Nat) (E : Nat → Nat → Int64) (M : Nat → Bool) (u : Nat) (V : Nat → Nat → Int64) (rc : Nat → Int32) : Prop :=
  (∀ c r, c < 9 → r < N (c / 3) → M (16 * (c / 3) + r) = false → V c (if c / 3 < u then cn_b (sy_b M (c / 3)) r else r) = E c r) ∧ ∀ t, t < 3 → rc t = nI (if t < u then sh_N N M t else N t)
def dp_n (N : Nat → Nat) (M : Nat → Bool) : Nat → Nat
  | 0 => 0
  | u + 1 => dp_n N M u + (N u - sh_N N M u)
theorem dp_end {E V : Nat → Nat → Int64} {rc : Nat → Int32} (h16 : ∀ t, t < 3 → N t ≤ 16) (h : dp_I N E M 3 V rc) : (∀ t, t < 3 → rc t = nI (sh_N N M t) ∧ sh_N N M t ≤ 16) ∧ ∀ c j, c < 9 → j < sh_N N M (c / 3) → V c j = sh_D N E M c j := by
  refine ⟨fun t ht => ?_, fun c j hc hj => ?_⟩
  · have := h.2 t ht
    rw [if_pos ht] at this
    have h1 := cn_le (sy_b M t) (N t)
    have h2 := h16 t ht
    exact ⟨this, Nat.le_trans h1 h2⟩
  · obtain ⟨r, hr, sr, cr, er⟩ := sh_e (E := E) hj
    have := h.1 c r hc hr sr
    rw [if_pos (by omega), cr] at this
    rw [this, er]
theorem dp_step {E V0 V : Nat → Nat → Int64} {rc rc' : Nat → Int32} {u : Nat} (h16 : ∀ t, t < 3 → N t ≤ 16) (h : dp_I N E M u V0 rc) (hs : sh_I N E M u (N u) V0 V) (hu : u < 3) (hrc : ∀ t, t < 3 → rc' t = if t = u then nI (cn_b (sy_b M u) (N u)) else rc t) : dp_I N E M (u + 1) V rc' := by
  refine ⟨fun c r hc hr hm => ?_, fun t ht => ?_⟩
  · have hN := h16 (c / 3) (by omega)
    have hle := cn_le (sy_b M (c / 3)) r
    by_cases e : c / 3 = u
    · rw [if_pos (by omega), e]
      rw [e] at hr hm
      exact hs.2.1 c r hc e hr hm
    · have h1 := h.1 c r hc hr hm
      by_cases z : c / 3 < u
      · rw [if_pos z] at h1
        rw [if_pos (by omega), hs.2.2 c _ hc e (by omega)]
        exact h1
      · rw [if_neg z] at h1
        rw [if_neg (by omega), hs.2.2 c _ hc e (by omega)]
        exact h1
  · rw [hrc t ht]
    by_cases e : t = u
    · subst e
      rw [if_pos rfl, if_pos (by omega)]
      rfl
    · rw [if_neg e, h.2 t ht]
      by_cases z : t < u
      · rw [if_pos z, if_pos (by omega)]
      · rw [if_neg z, if_neg (by omega)]
theorem dp_init {E V0 : Nat → Nat → Int64} {rc : Nat → Int32} {u : Nat} (h : dp_I N E M u V0 rc) (hu : u < 3) : sh_I N E M u 0 V0 V0 := by
  refine ⟨fun c r hc e _ hr hm => ?_, fun c r _ _ hr => absurd hr (Nat.not_lt_zero _), fun _ _ _ _ _ => rfl⟩
  have := h.1 c r hc (by rw [e]; exact hr) (by rw [e]; exact hm)
  rw [if_neg (by omega)] at this
  exact this
theorem xm_drop {post : Int32 → SX → Prop} {E : Nat → Nat → Int64} (hN : ∀ t, t < 3 → rcX t = nI (N t) ∧ N t ≤ 16) (hm : ∀ x, x < 48 → mkX x = bo_i (M x)) (hE : ∀ c r, c < 9 → r < N (c / 3) → M (16 * (c / 3) + r) = false → ceX (16 * c + r) = E c r)
    (h : ∀ ce rc, db_xc (sh_N N M) (sh_D N E M) ce rc → post (nI (dp_n N M 3)) (toX, soX, coX, ouX, kyX, moX, diX, rrX, rwX, ce, rc, unX, rqX, taX, acX, sceX, srcX, sunX, srqX, staX, sacX, stX, cfX, cpX, chX, csX, okX, ocX, koX, kfX, cbX, mkX, fvX, ovX, rsX, rtX)) : wpX_dropMarkedRows post (toX, soX, coX, ouX, kyX, moX, diX, rrX, rwX, ceX, rcX, unX, rqX, taX, acX, sceX, srcX, sunX, srqX, staX, sacX, stX, cfX, cpX, chX, csX, okX, ocX, koX, kfX, cbX, mkX, fvX, ovX, rsX, rtX) := by
  have h16 : ∀ t, t < 3 → N t ≤ 16 := fun t ht => (hN t ht).2
  refine loop_0 (fun n u (s : (Nat → Int64) × (Nat → Int32)) => wX_dropMarkedRows_4 post n (nI (dp_n N M u)) (nI u) toX soX coX ouX kyX moX diX rrX rwX s.1 s.2 unX rqX taX acX sceX srcX sunX srqX staX sacX stX cfX cpX chX csX okX ocX koX kfX cbX mkX fvX ovX rsX rtX) (fun u s => dp_I N E M u (fun c r => s.1 (16 * c + r)) s.2) 3 (ceX, rcX) ⟨fun c r hc hr hm' => by rw [if_neg (Nat.not_lt_zero _)]; exact hE c r hc hr hm', fun t ht => by rw [if_neg (Nat.not_lt_zero _)]; exact (hN t ht).1⟩ ?_ ?_
  · rintro n ⟨ce, rc⟩ hI
    obtain ⟨a, b⟩ := dp_end h16 hI
    exact br_t (by decide) (h ce rc ⟨a, b⟩)
  · rintro n u ⟨ce, rc⟩ hu hI hn
    have hr : rc u = nI (N u) := by
      have := hI.2 u hu
      rw [if_neg (Nat.lt_irrefl u)] at this
      exact this
    have hNu := h16 u hu
    have hi3 : vp_in (nI u) 3 := vp_in_nI hu (by decide)
    refine br_f (nI_ge (b := 3) hu (by decide)) ⟨hi3, nm_r (e' := nI (N u)) (by rw [nI_clamp (by omega)]; exact hr) ?_⟩
    refine loop_0 (fun m i s => wX_dropMarkedRows_22 post (wX_dropMarkedRows_4 post n) (nI (dp_n N M u)) (nI u) (nI (N u)) m (nI (cn_b (sy_b M u) i)) (nI i) toX soX coX ouX kyX moX diX rrX rwX s rc unX rqX taX acX sceX srcX sunX srqX staX sacX stX cfX cpX chX csX okX ocX koX kfX cbX mkX fvX ovX rsX rtX) (fun i s => sh_I N E M u i (fun c r => ce (16 * c + r)) (fun c r => s (16 * c + r))) (N u) ce (dp_init hI hu) ?_ ?_
    · intro m s hJ
      have hle := cn_le (sy_b M u) (N u)
      refine br_t (nI_le (Nat.le_refl _) (by omega)) ⟨hi3, nm_e (nm_r (e' := nI (dp_n N M (u + 1))) (by rw [pk_sub hle, nI_add]; rfl) (nm_r (nI_1 u) (hn (s, upd rc (nI u).toNatClampNeg (nI (cn_b (sy_b M u) (N u)))) ?_)))⟩
      refine dp_step h16 hI hJ hu (fun t ht => ?_)
      show upd rc (nI u).toNatClampNeg (nI (cn_b (sy_b M u) (N u))) t = _
      rw [nI_clamp (by omega)]
      rfl
    · intro m i s hi hJ hm'
      refine br_f (nI_ge hi (by omega)) ?_
      rw [nz_16, nI_clamp (by omega), hm _ (by omega)]
      refine ⟨vp_in_nI (by omega) (by decide), ?_⟩
      have hle := cn_le (sy_b M u) i
      cases hb : M (16 * u + i) with
      | true =>
        refine br_f (by decide) (nm_r (nI_1 i) ?_)
        have := hm' s (sh_no hJ hb)
        rw [cn_f (show ¬ sy_b M u i = true by rw [sy_i, hb]; decide)] at this
        exact this
      | false =>
        refine br_t rfl (xm_copy hu (by omega) (by omega) (fun ce' hce => ?_))
        have := hm' ce' (sh_go hJ hNu hi hb (fun c r hc hr => hce c r hc hr))
        rw [cn_t (sy_i.mpr hb)] at this
        exact nm_r (nI_1 _) (nm_r (nI_1 i) this)
end
