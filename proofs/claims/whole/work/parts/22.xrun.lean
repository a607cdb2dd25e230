/-! run: X takes the combinations -/
def ou_v (D : Nat → Nat → Int64) (S OS OC : Nat → Nat) (q k : Nat) : Int64 := co_v D S (ro_w q) (OS k) (OC k)
def ou_w (D : Nat → Nat → Int64) (S OS OC : Nat → Nat) (k r : Nat) : Int64 := D (3 * S (OS k) + OC k) r
def ko_c (ns no : Nat) (OK OS OC : Nat → Nat) : Prop := no ≤ 4 ∧ ∀ k, k < no → OK k < 7 ∧ OS k < ns ∧ OC k < 3
def kx_o (no : Nat) (OK OS OC : Nat → Nat) (ok oc : Nat → Int32) : Prop := ∀ k, k < no → ok k = nI (OK k) ∧ oc k = nI (3 * OS k + OC k)
def ky_o (no : Nat) (OK OS OC : Nat → Nat) (okY osY ocY : Nat → Int32) : Prop := ∀ k, k < no → okY k = nI (OK k) ∧ osY k = nI (OS k) ∧ ocY k = nI (OC k)
noncomputable def al_b (no : Nat) (OK : Nat → Nat) (V : Nat → Nat → Int64) (q q' : Nat) : Bool := @decide (∀ k, k < no → OK k = 0 → V q k = V q' k) (Classical.propDecidable _)
theorem al_i {no : Nat} {OK : Nat → Nat} {V : Nat → Nat → Int64} {q q' : Nat} : al_b no OK V q q' = true ↔ ∀ k, k < no → OK k = 0 → V q k = V q' k := @decide_eq_true_iff _ (Classical.propDecidable _)
def vx_v (OK : Nat → Nat) (V : Nat → Nat → Int64) (C : Nat → Nat) (k i : Nat) : Int64 := if OK k = 1 then 0 else V (C i) k
def ac_b (OK : Nat → Nat) (V : Nat → Nat → Int64) (C G : Nat → Nat) (g k : Nat) : Nat → Bool := fun i => decide (G i = g ∧ vx_v OK V C k i ≠ nu_l)
noncomputable def rv_v (OK OS : Nat → Nat) (V W : Nat → Nat → Int64) (C G : Nat → Nat) (p g k : Nat) : Int64 := fo_v (OK k) (W k) (fo_s (ac_b OK V C G g k) (vx_v OK V C k) p) (fo_e (ac_b OK V C G g k) (fun i => ro_w (C i) (OS k)) p)
def mi_m (W : Nat → Int64) (E : Nat → Bool) (b : Int32) (n : Nat) : Prop := (∀ r, r < 16 → bt b r = true → r < n ∧ E r = true) ∧ ∀ r, r < 16 → E r = true → ∃ q, q < 16 ∧ bt b q = true ∧ W q = W r
theorem ac_i {OK : Nat → Nat} {V : Nat → Nat → Int64} {C G : Nat → Nat} {g k i : Nat} : ac_b OK V C G g k i = true ↔ G i = g ∧ vx_v OK V C k i ≠ nu_l := decide_eq_true_iff
section
variable {toX soX coX ouX kyX moX diX rrX rwX : Int32} {ceX sceX fvX ovX rsX : Nat → Int64} {rcX unX rqX taX acX srcX sunX srqX staX sacX stX cfX cpX chX csX okX ocX koX kfX cbX mkX rtX : Nat → Int32} {N : Nat → Nat} {D : Nat → Nat → Int64} {ns no : Nat} {S OK OS OC : Nat → Nat}
theorem xm_count {post : Int32 → Prop} (hk : ko_c ns no OK OS OC) (ho : kx_o no OK OS OC okX ocX) (h : post (nI (cn_b (fun k => decide (OK k = 0)) no))) : wpX_countPlainOutputs post (toX, soX, coX, nI no, kyX, moX, diX, rrX, rwX, ceX, rcX, unX, rqX, taX, acX, sceX, srcX, sunX, srqX, staX, sacX, stX, cfX, cpX, chX, csX, okX, ocX, koX, kfX, cbX, mkX, fvX, ovX, rsX, rtX) := by
  have h4 := hk.1
  refine loop_0 (fun n i (_ : Unit) => wX_countPlainOutputs_4 post toX soX coX (nI no) kyX moX diX rrX rwX ceX rcX unX rqX taX acX sceX srcX sunX srqX staX sacX stX cfX cpX chX csX okX ocX koX kfX cbX mkX fvX ovX rsX rtX n (nI (cn_b (fun k => decide (OK k = 0)) i)) (nI i)) (fun _ _ => True) no () trivial ?_ ?_
  · intro n _ _
    exact br_t (nI_le (Nat.le_refl _) (by omega)) h
  · intro n i _ hi _ hn
    refine br_f (nI_ge hi (by omega)) ⟨vp_in_nI (by omega) (by decide), ?_⟩
    rw [nI_clamp (by omega), (ho i hi).1]
    have h7 := (hk.2 i hi).1
    by_cases e : OK i = 0
    · refine br_t (by rw [e]; rfl) (nm_r (nI_1 _) (nm_r (nI_1 i) ?_))
      have := hn () trivial
      rw [cn_t (decide_eq_true e)] at this
      exact this
    · refine br_f (op_ne (b := 0) (by omega) (by decide) e) (nm_r (nI_1 i) ?_)
      have := hn () trivial
      rw [cn_f (by simpa using e)] at this
      exact this
theorem xm_readOut {post : SX → Prop} (hC : db_xc N D ceX rcX) (h3 : ns ≤ 3) (hS : ∀ s, s < ns → S s < 3) (hst : ∀ s, s < ns → stX s = nI (S s)) (hk : ko_c ns no OK OS OC) (ho : kx_o no OK OS OC okX ocX) {q : Nat} (hcb : ∀ s, s < ns → cbX s = nI (ro_w q s) ∧ ro_w q s < N (S s)) (h : ∀ ov, (∀ k, k < no → ov k = ou_v D S OS OC q k) → post (toX, soX, coX, nI no, kyX, moX, diX, rrX, rwX, ceX, rcX, unX, rqX, taX, acX, sceX, srcX, sunX, srqX, staX, sacX, stX, cfX, cpX, chX, csX, okX, ocX, koX, kfX, cbX, mkX, fvX, ov, rsX, rtX)) : wpX_readOutputValues post (toX, soX, coX, nI no, kyX, moX, diX, rrX, rwX, ceX, rcX, unX, rqX, taX, acX, sceX, srcX, sunX, srqX, staX, sacX, stX, cfX, cpX, chX, csX, okX, ocX, koX, kfX, cbX, mkX, fvX, ovX, rsX, rtX) := by
  have h4 := hk.1
  refine loop_0 (fun n i s => wX_readOutputValues_2 post toX soX coX (nI no) kyX moX diX rrX rwX n (nI i) ceX rcX unX rqX taX acX sceX srcX sunX srqX staX sacX stX cfX cpX chX csX okX ocX koX kfX cbX mkX fvX s rsX rtX) (fun i s => ∀ k, k < i → s k = ou_v D S OS OC q k) no ovX lt_0 ?_ ?_
  · intro n s hI
    exact br_t (nI_le (Nat.le_refl _) (by omega)) (h s hI)
  · intro n i s hi hI hn
    have hv : vp_in (nI i) 4 := vp_in_nI (by omega) (by decide)
    refine br_f (nI_ge hi (by omega)) ⟨hv, ?_⟩
    rw [nI_clamp (by omega), (ho i hi).2]
    refine xm_val (ρ := ro_w q) hC h3 hS hst hcb (hk.2 i hi).2.1 (hk.2 i hi).2.2 ⟨hv, nm_e (nm_r (nI_1 i) (hn _ (lt_s (fun k hk' => ?_) pk_uLs)))⟩
    rw [pk_uLn (by omega)]
    exact hI k hk'
theorem xm_isAlike {post : Int32 → Prop} (hk : ko_c ns no OK OS OC) (ho : kx_o no OK OS OC okX ocX) {V : Nat → Nat → Int64} {q q' g : Nat} (hg : g < 60) (hov : ∀ k, k < no → ovX k = V q k) (hr : ∀ k, k < no → OK k = 0 → rsX (4 * g + k) = V q' k) (h1 : al_b no OK V q' q = true → post 1) (h0 : al_b no OK V q' q = false → post 0) : wpX_isAlike post (toX, soX, coX, nI no, kyX, moX, diX, rrX, rwX, ceX, rcX, unX, rqX, taX, acX, sceX, srcX, sunX, srqX, staX, sacX, stX, cfX, cpX, chX, csX, okX, ocX, koX, kfX, cbX, mkX, fvX, ovX, rsX, rtX) (nI g) := by
  have h4 := hk.1
  refine loop_0 (fun n i (_ : Unit) => wX_isAlike_2 post (nI g) toX soX coX (nI no) kyX moX diX rrX rwX ceX rcX unX rqX taX acX sceX srcX sunX srqX staX sacX stX cfX cpX chX csX okX ocX koX kfX cbX mkX fvX ovX rsX rtX n (nI i)) (fun i _ => ∀ k, k < i → OK k = 0 → V q' k = V q k) no () lt_0 ?_ ?_
  · intro n _ hI
    exact br_t (nI_le (Nat.le_refl _) (by omega)) (h1 (al_i.mpr hI))
  · intro n i _ hi hI hn
    have hv : vp_in (nI i) 4 := vp_in_nI (by omega) (by decide)
    have h7 := (hk.2 i hi).1
    refine br_f (nI_ge hi (by omega)) ⟨hv, ?_⟩
    rw [nI_clamp (show i < 2 ^ 31 by omega), (ho i hi).1]
    by_cases e : OK i = 0
    · rw [nz_4, nI_clamp (by omega), hr i hi e, hov i hi]
      refine br_t (by rw [e]; rfl) ⟨vp_in_nI (by omega) (by decide), hv, ?_⟩
      by_cases ev : V q' i = V q i
      · exact br_t ev (nm_r (nI_1 i) (hn () (lt_s hI (fun _ => ev))))
      · refine br_f ev (h0 ?_)
        rw [Bool.eq_false_iff]
        exact fun z => ev (al_i.mp z i hi e)
    · exact br_f (op_ne (b := 0) (by omega) (by decide) e) (nm_r (nI_1 i) (hn () (lt_s hI (fun z => absurd z e))))
theorem xm_rowAlike {post : Int32 → Prop} (hk : ko_c ns no OK OS OC) (ho : kx_o no OK OS OC okX ocX) {V : Nat → Nat → Int64} {q m : Nat} {rp : Nat → Nat} (hm : m ≤ 60) (hov : ∀ k, k < no → ovX k = V q k) (hr : ∀ g k, g < m → k < no → OK k = 0 → rsX (4 * g + k) = V (rp g) k) (h : post (nI (fi_f (fun g => al_b no OK V (rp g) q) m))) : wpX_resultRowAlike post (toX, soX, coX, nI no, kyX, moX, diX, nI m, rwX, ceX, rcX, unX, rqX, taX, acX, sceX, srcX, sunX, srqX, staX, sacX, stX, cfX, cpX, chX, csX, okX, ocX, koX, kfX, cbX, mkX, fvX, ovX, rsX, rtX) := by
  refine loop_0 (fun n i (_ : Unit) => wX_resultRowAlike_2 post toX soX coX (nI no) kyX moX diX (nI m) rwX ceX rcX unX rqX taX acX sceX srcX sunX srqX staX sacX stX cfX cpX chX csX okX ocX koX kfX cbX mkX fvX ovX rsX rtX n (nI i)) (fun i _ => ∀ g, g < i → al_b no OK V (rp g) q = false) m () lt_0 ?_ ?_
  · intro n _ hI
    rw [ff_eq (Nat.le_refl m) hI (fun z => absurd z (Nat.lt_irrefl _))] at h
    exact br_t (nI_le (Nat.le_refl _) (by omega)) h
  · intro n i _ hi hI hn
    refine br_f (nI_ge hi (by omega)) (xm_isAlike hk ho (by omega) hov (fun k hk' e => hr i k hi hk' e) (fun z => ?_) (fun z => ?_))
    · rw [ff_eq (Nat.le_of_lt hi) hI (fun _ => z)] at h
      exact br_f (by decide) h
    · exact br_t rfl (nm_r (nI_1 i) (hn () (lt_s hI z)))
def sr_v (kind : Nat) (v : Int64) : Int64 := if kind = 0 then v else if kind = 3 ∨ kind = 4 ∨ kind = 5 then nu_l else 0
theorem xm_startRow {post : SX → Prop} (hk : ko_c ns no OK OS OC) (ho : kx_o no OK OS OC okX ocX) {m : Nat} (hm : m < 60) (h : ∀ rs rt, (∀ x, x < 4 * m → rs x = rsX x ∧ rt x = rtX x) → (∀ k, k < no → rs (4 * m + k) = sr_v (OK k) (ovX k) ∧ rt (4 * m + k) = 0) → post (toX, soX, coX, nI no, kyX, moX, diX, nI (m + 1), rwX, ceX, rcX, unX, rqX, taX, acX, sceX, srcX, sunX, srqX, staX, sacX, stX, cfX, cpX, chX, csX, okX, ocX, koX, kfX, cbX, mkX, fvX, ovX, rs, rt)) : wpX_startResultRow post (toX, soX, coX, nI no, kyX, moX, diX, nI m, rwX, ceX, rcX, unX, rqX, taX, acX, sceX, srcX, sunX, srqX, staX, sacX, stX, cfX, cpX, chX, csX, okX, ocX, koX, kfX, cbX, mkX, fvX, ovX, rsX, rtX) := by
  have h4 := hk.1
  refine loop_0 (fun n i (s : (Nat → Int64) × (Nat → Int32)) => wX_startResultRow_2 post toX soX coX (nI no) kyX moX diX (nI m) rwX n (nI i) ceX rcX unX rqX taX acX sceX srcX sunX srqX staX sacX stX cfX cpX chX csX okX ocX koX kfX cbX mkX fvX ovX s.1 s.2) (fun i s => (∀ x, x < 4 * m → s.1 x = rsX x ∧ s.2 x = rtX x) ∧ ∀ k, k < i → s.1 (4 * m + k) = sr_v (OK k) (ovX k) ∧ s.2 (4 * m + k) = 0) no (rsX, rtX) ⟨fun _ _ => ⟨rfl, rfl⟩, lt_0⟩ ?_ ?_
  · rintro n ⟨rs, rt⟩ hI
    exact br_t (nI_le (Nat.le_refl _) (by omega)) (nm_r (nI_1 m) (h rs rt hI.1 hI.2))
  · rintro n i ⟨rs, rt⟩ hi hI hn
    have hv : vp_in (nI i) 4 := vp_in_nI (by omega) (by decide)
    have hv2 : vp_in (nI (4 * m + i)) 240 := vp_in_nI (by omega) (by decide)
    have h7 := (hk.2 i hi).1
    have ex : (nI (4 * m + i)).toNatClampNeg = 4 * m + i := nI_clamp (by omega)
    have nxt : ∀ w, w = sr_v (OK i) (ovX i) → wX_startResultRow_2 post toX soX coX (nI no) kyX moX diX (nI m) rwX n (nI (i + 1)) ceX rcX unX rqX taX acX sceX srcX sunX srqX staX sacX stX cfX cpX chX csX okX ocX koX kfX cbX mkX fvX ovX (vp_updL rs (4 * m + i) w) (upd rt (4 * m + i) 0) := by
      intro w ew
      refine hn (vp_updL rs (4 * m + i) w, upd rt (4 * m + i) 0) ⟨fun x hx => ?_, lt_s (fun k hk' => ?_) ?_⟩
      · show vp_updL rs (4 * m + i) w x = _ ∧ upd rt (4 * m + i) 0 x = _
        rw [pk_uLn (by omega), pk_un (by omega)]
        exact hI.1 x hx
      · show vp_updL rs (4 * m + i) w (4 * m + k) = _ ∧ upd rt (4 * m + i) 0 (4 * m + k) = _
        rw [pk_uLn (by omega), pk_un (by omega)]
        exact hI.2 k hk'
      · show vp_updL rs (4 * m + i) w (4 * m + i) = _ ∧ upd rt (4 * m + i) 0 (4 * m + i) = _
        rw [pk_uLs, pk_us]
        exact ⟨ew, rfl⟩
    refine br_f (nI_ge hi (by omega)) (nm_r (nz_4 m i) ⟨hv, nm_r (e' := nI (OK i)) (by rw [nI_clamp (by omega)]; exact (ho i hi).1) ⟨hv2, nm_r (e' := upd rt (4 * m + i) 0) (by rw [ex]) ?_⟩⟩)
    by_cases e0 : OK i = 0
    · refine br_t (by rw [e0]; rfl) ⟨hv, hv2, nm_r (e' := vp_updL rs (4 * m + i) (ovX i)) (by rw [ex, nI_clamp (by omega)]) (nm_r (nI_1 i) (nxt _ ?_))⟩
      unfold sr_v
      rw [if_pos e0]
    · refine br_f (op_ne (b := 0) (by omega) (by decide) e0) ?_
      have nul : (OK i = 3 ∨ OK i = 4 ∨ OK i = 5) → wX_startResultRow_67 post (wX_startResultRow_2 post toX soX coX (nI no) kyX moX diX (nI m) rwX n) (nI i) (nI (4 * m + i)) toX soX coX (nI no) kyX moX diX (nI m) rwX ceX rcX unX rqX taX acX sceX srcX sunX srqX staX sacX stX cfX cpX chX csX okX ocX koX kfX cbX mkX fvX ovX rs (upd rt (4 * m + i) 0) := by
        intro hor
        refine ⟨hv2, nm_r (e' := vp_updL rs (4 * m + i) nu_l) (by rw [ex]) (nm_r (nI_1 i) (nxt _ ?_))⟩
        unfold sr_v
        rw [if_neg e0, if_pos hor]
      by_cases e3 : OK i = 3
      · exact br_t (by rw [e3]; rfl) (nul (Or.inl e3))
      · refine br_f (op_ne (b := 3) (by omega) (by decide) e3) ?_
        by_cases e4 : OK i = 4
        · exact br_t (by rw [e4]; rfl) (nul (Or.inr (Or.inl e4)))
        · refine br_f (op_ne (b := 4) (by omega) (by decide) e4) ?_
          by_cases e5 : OK i = 5
          · exact br_t (by rw [e5]; rfl) (nul (Or.inr (Or.inr e5)))
          · refine br_f (op_ne (b := 5) (by omega) (by decide) e5) ⟨hv2, nm_r (e' := vp_updL rs (4 * m + i) 0) (by rw [ex]) (nm_r (nI_1 i) (nxt _ ?_))⟩
            unfold sr_v
            rw [if_neg e0, if_neg (by omega)]
/-- one more int, on X's side -/
theorem xm_joined {post : Int64 → Prop} {kind : Nat} {W : Nat → Int64} {act : Nat → Bool} {x : Nat → Int64} {E E' : Nat → Bool} {p : Nat} (hk : kind = 3 ∨ kind = 4 ∨ kind = 5) (hp : p < 4096) (ha : act p = true) (hx : ∀ i, i < p + 1 → act i = true → ∃ z : Int32, x i = z.toInt64) (h : post (fo_v kind W (fo_s act x (p + 1)) E')) : wpX_joinedInts post (nI kind) (fo_v kind W (fo_s act x p) E) (x p) := by
  have h3 : ¬ kind < 3 := by omega
  have h6 : kind ≠ 6 := by omega
  obtain ⟨b1, ⟨b2, b3⟩, b4⟩ := fo_b (p := p) (by omega) (fun i hi => hx i (by omega))
  rw [fo_t ha, fv_n h3 h6 (by exact Nat.succ_ne_zero _)] at h
  dsimp only at h
  by_cases h0 : (fo_s act x p).1 = 0
  · rw [fv_0 h3 h6 h0]
    refine br_t rfl ?_
    have es : (fo_s act x p).2.1 = 0 := by
      apply Int64.toInt_inj.mp
      rw [h0] at b2 b3
      show _ = 0
      omega
    rw [es, Int64.zero_add, if_pos (Or.inl h0), if_pos (Or.inl h0)] at h
    rcases hk with z | z | z
    · rw [if_pos z] at h
      exact h
    · rw [if_neg (by omega), if_pos z] at h
      exact h
    · rw [if_neg (by omega), if_neg (by omega)] at h
      exact h
  · rw [fv_n h3 h6 h0]
    obtain ⟨⟨z4, e4⟩, z5, e5⟩ := b4 h0
    rcases hk with z | z | z
    · subst z
      rw [if_pos rfl] at h ⊢
      refine br_f (fun w => ?_) (br_t rfl h)
      rw [w, nu_i] at b2
      omega
    · subst z
      rw [if_neg (by decide), if_pos rfl] at h ⊢
      refine br_f (by rw [e4]; exact nu_ne z4) (br_f (by decide) (br_t rfl (br_c (fun w => ?_) (fun w => ?_))))
      · rw [if_neg (fun y => by rcases y with y | y; exact h0 y; exact absurd y (Int64.not_lt.mpr w))] at h
        exact h
      · rw [if_pos (Or.inr (Int64.not_le.mp w))] at h
        exact h
    · subst z
      rw [if_neg (by decide), if_neg (by decide)] at h ⊢
      refine br_f (by rw [e5]; exact nu_ne z5) (br_f (by decide) (br_f (by decide) (br_c (fun w => ?_) (fun w => ?_))))
      · rw [if_neg (fun y => by rcases y with y | y; exact h0 y; exact absurd y (Int64.not_lt.mpr w))] at h
        exact h
      · rw [if_pos (Or.inr (Int64.not_le.mp w))] at h
        exact h
theorem xm_new {post : SX → Prop} (hC : db_xc N D ceX rcX) (h3 : ns ≤ 3) (hS : ∀ s, s < ns → S s < 3) (hst : ∀ s, s < ns → stX s = nI (S s)) {s c x r : Nat} (hs : s < ns) (hc : c < 3) (hx : x < 240) (hcb : cbX s = nI r) (hr : r < N (S s)) {E : Nat → Bool} (hm : mi_m (fun r => D (3 * S s + c) r) E (rtX x) (N (S s)))
    (h0 : (∃ q, q < 16 ∧ E q = true ∧ D (3 * S s + c) q = D (3 * S s + c) r) → mi_m (fun r => D (3 * S s + c) r) (st_b E r) (rtX x) (N (S s)) → post (toX, soX, coX, ouX, kyX, moX, diX, rrX, rwX, ceX, rcX, unX, rqX, taX, acX, sceX, srcX, sunX, srqX, staX, sacX, stX, cfX, cpX, chX, csX, okX, ocX, koX, kfX, cbX, mkX, fvX, ovX, rsX, rtX))
    (h1 : ∀ b, (∀ q, q < 16 → E q = true → D (3 * S s + c) q ≠ D (3 * S s + c) r) → mi_m (fun r => D (3 * S s + c) r) (st_b E r) b (N (S s)) → post (toX, soX, coX, ouX, kyX, moX, diX, rrX, rwX, ceX, rcX, unX, rqX, taX, acX, sceX, srcX, sunX, srqX, staX, sacX, stX, cfX, cpX, chX, csX, okX, ocX, koX, kfX, cbX, mkX, fvX, ovX, vp_updL rsX x (rsX x + 1), upd rtX x b)) : wpX_countIfNew post (toX, soX, coX, ouX, kyX, moX, diX, rrX, rwX, ceX, rcX, unX, rqX, taX, acX, sceX, srcX, sunX, srqX, staX, sacX, stX, cfX, cpX, chX, csX, okX, ocX, koX, kfX, cbX, mkX, fvX, ovX, rsX, rtX) (nI x) (nI (3 * s + c)) (D (3 * S s + c) r) := by
  have e1 : nI (3 * s + c) / 3 = nI s := by
    rw [nz_d3 (by omega)]
    exact congrArg nI (by omega)
  have e2 : nI (3 * s + c) - nI (3 * s + c) / 3 * 3 = nI c := by
    rw [nz_r3 (by omega)]
    exact congrArg nI (by omega)
  have es : (nI s).toNatClampNeg = s := nI_clamp (by omega)
  have ex : (nI x).toNatClampNeg = x := nI_clamp (by omega)
  have hs3 := hS s hs
  have h16 := (hC.1 (S s) hs3).2
  have hi3 : vp_in (nI s) 3 := vp_in_nI (by omega) (by decide)
  have hvx : vp_in (nI x) 240 := vp_in_nI hx (by decide)
  refine ⟨nz_3ne, nm_r e1 ⟨hi3, nz_3ne, nm_r (e' := nI (3 * S s + c)) (by rw [es, hst s hs, e2, nz_3]) ?_⟩⟩
  refine loop_0 (fun n i (_ : Unit) => wX_countIfNew_23 post (nI x) (D (3 * S s + c) r) (nI s) (nI (3 * S s + c)) toX soX coX ouX kyX moX diX rrX rwX ceX rcX unX rqX taX acX sceX srcX sunX srqX staX sacX stX cfX cpX chX csX okX ocX koX kfX cbX mkX fvX ovX rsX rtX n (nI i)) (fun i _ => ∀ q, q < i → bt (rtX x) q = true → D (3 * S s + c) q ≠ D (3 * S s + c) r) 16 () lt_0 ?_ ?_
  · intro n _ hI
    refine br_t (by decide) ⟨hvx, hi3, hvx, ?_⟩
    rw [ex, es, hcb]
    refine nm_e ⟨hvx, hvx, nm_e (h1 _ (fun q hq he hw => ?_) ⟨fun q hq hb => ?_, fun q hq he => ?_⟩)⟩
    · obtain ⟨q', hq', hb', hw'⟩ := hm.2 q hq he
      exact hI q' hq' hb' (hw'.trans hw)
    · rw [bt_or (by omega) (by omega), st_i] at hb
      rcases hb with z | z
      · subst z
        exact ⟨hr, st_s⟩
      · obtain ⟨a, b⟩ := hm.1 q hq z
        exact ⟨a, st_i.mpr (Or.inr b)⟩
    · rcases st_i.mp he with z | z
      · subst z
        refine ⟨q, hq, ?_, rfl⟩
        rw [bt_or (by omega) (by omega)]
        exact st_s
      · obtain ⟨q', hq', hb', hw'⟩ := hm.2 q hq z
        refine ⟨q', hq', ?_, hw'⟩
        rw [bt_or (by omega) (by omega)]
        exact st_i.mpr (Or.inr hb')
  · intro n i _ hi hI hn
    refine br_f (nI_ge (b := 16) hi (by decide)) ⟨hvx, ?_⟩
    rw [ex]
    cases hb : bt (rtX x) i with
    | false => exact br_t ((bt_and (by omega)).mpr hb) (nm_r (nI_1 i) (hn () (lt_s hI (fun z => by rw [hb] at z; exact absurd z (by decide)))))
    | true =>
      obtain ⟨hiN, hiE⟩ := hm.1 i hi hb
      refine br_f (fun z => by rw [(bt_and (by omega)).mp z] at hb; exact absurd hb (by decide)) ?_
      rw [nz_16, nI_clamp (by omega), hC.2 (3 * S s + c) i (by omega) (by rw [show (3 * S s + c) / 3 = S s by omega]; exact hiN)]
      refine ⟨vp_in_nI (by omega) (by decide), ?_⟩
      by_cases ev : D (3 * S s + c) i = D (3 * S s + c) r
      · refine br_t ev (h0 ⟨i, hi, hiE, ev⟩ ⟨fun q hq hb' => ?_, fun q hq he => ?_⟩)
        · obtain ⟨a, b⟩ := hm.1 q hq hb'
          exact ⟨a, st_i.mpr (Or.inr b)⟩
        · rcases st_i.mp he with z | z
          · subst z
            exact ⟨i, hi, hb, ev⟩
          · exact hm.2 q hq z
      · exact br_f ev (nm_r (nI_1 i) (hn () (lt_s hI (fun _ => ev))))
end
