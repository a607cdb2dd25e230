/-! the rows that hold -/
noncomputable def mh_B (t i : Nat) (P : Nat → Prop) (x : Nat) : Bool := @decide (x / 16 = t ∧ x % 16 < i ∧ P (x % 16)) (Classical.propDecidable _)
theorem mh_i {t i : Nat} {P : Nat → Prop} {x : Nat} : mh_B t i P x = true ↔ x / 16 = t ∧ x % 16 < i ∧ P (x % 16) := @decide_eq_true_iff _ (Classical.propDecidable _)
theorem mh_r {t i : Nat} {P : Nat → Prop} {r : Nat} (hr : r < 16) : mh_B t i P (16 * t + r) = true ↔ r < i ∧ P r := by
  rw [mh_i, show (16 * t + r) / 16 = t by omega, show (16 * t + r) % 16 = r by omega]
  exact ⟨fun z => z.2, fun z => ⟨rfl, z⟩⟩
theorem mh_0 {t : Nat} {P : Nat → Prop} {x : Nat} : mh_B t 0 P x = false := by
  rw [Bool.eq_false_iff]
  intro z
  exact absurd (mh_i.mp z).2.1 (Nat.not_lt_zero _)
theorem mh_t {t i : Nat} {P : Nat → Prop} (h : P i) {mk : Nat → Int32} (hi : i < 16) (hm : ∀ x, x < 48 → mk x = bo_i (mh_B t i P x)) : ∀ x, x < 48 → upd mk (16 * t + i) (bo_i true) x = bo_i (mh_B t (i + 1) P x) := by
  intro x hx
  by_cases e : x = 16 * t + i
  · subst e
    rw [pk_us, (mh_r hi).mpr ⟨Nat.lt_succ_self i, h⟩]
  · rw [pk_un e, hm x hx]
    refine congrArg bo_i (Bool.eq_iff_iff.mpr ?_)
    rw [mh_i, mh_i]
    refine ⟨fun z => ⟨z.1, by omega, z.2.2⟩, fun z => ⟨z.1, ?_, z.2.2⟩⟩
    have := z.1
    have := z.2.1
    omega
theorem mh_f {t i : Nat} {P : Nat → Prop} (h : ¬ P i) {mk : Nat → Int32} (hm : ∀ x, x < 48 → mk x = bo_i (mh_B t i P x)) : ∀ x, x < 48 → mk x = bo_i (mh_B t (i + 1) P x) := by
  intro x hx
  rw [hm x hx]
  refine congrArg bo_i (Bool.eq_iff_iff.mpr ?_)
  rw [mh_i, mh_i]
  refine ⟨fun z => ⟨z.1, by omega, z.2.2⟩, fun z => ⟨z.1, ?_, z.2.2⟩⟩
  have h1 := z.2.1
  have h2 : x % 16 ≠ i := fun w => h (w ▸ z.2.2)
  omega
def cn_b (f : Nat → Bool) : Nat → Nat
  | 0 => 0
  | n + 1 => cn_b f n + (if f n = true then 1 else 0)
theorem cn_le (f : Nat → Bool) (n : Nat) : cn_b f n ≤ n := by
  induction n with
  | zero => exact Nat.le_refl _
  | succ n ih =>
    unfold cn_b
    split <;> omega
theorem cn_t {f : Nat → Bool} {n : Nat} (h : f n = true) : cn_b f (n + 1) = cn_b f n + 1 := by
  show cn_b f n + (if f n = true then 1 else 0) = _
  rw [if_pos h]
theorem cn_f {f : Nat → Bool} {n : Nat} (h : ¬ f n = true) : cn_b f (n + 1) = cn_b f n := by
  show cn_b f n + (if f n = true then 1 else 0) = _
  rw [if_neg h]
  exact Nat.add_zero _
theorem cn_ext {f g : Nat → Bool} {n : Nat} (h : ∀ i, i < n → f i = g i) : cn_b f n = cn_b g n := by
  induction n with
  | zero => rfl
  | succ n ih =>
    unfold cn_b
    rw [ih (fun i hi => h i (by omega)), h n (by omega)]
theorem ro_256 {r : Nat} (h : r < 16) : ro_w (256 * r) 0 = r := by
  show 256 * r / 256 % 16 = r
  omega
section
variable {toX soX coX ouX kyX moX diX rrX rwX : Int32} {ceX sceX fvX ovX rsX : Nat → Int64} {rcX unX rqX taX acX srcX sunX srqX staX sacX stX cfX cpX chX csX okX ocX koX kfX cbX mkX rtX : Nat → Int32} {opY soY coY ouY kyY liY diY cmY rrY wiY : Int32} {ceY oceY bceY rsY : Nat → Int64} {maY omaY bmaY unY rqY bunY brqY rfY acY brfY bacY srY csY ccY cpY cwY okY osY ocY koY ciY kfY cbY goY geY keY : Nat → Int32} {N : Nat → Nat} {D : Nat → Nat → Int64} {nc : Nat} {S CS CC CO : Nat → Nat} {CI : Nat → Bool} {CW : Nat → Int32}
theorem xm_mark {post : Int32 → SX → Prop} (hC : db_xc N D ceX rcX) (hk : ck_c 1 nc S CS CC CO CI CW) (hst : ∀ s, s < 1 → stX s = nI (S s)) (hc : cx_c nc CS CC CO CI CW cfX cpX chX csX)
    (h : ∀ cb mk, (∀ x, x < 48 → mk x = bo_i (mh_B (S 0) (N (S 0)) (fun r => co_h D S (ro_w (256 * r)) CS CC CO CI CW nc) x)) → post (nI (cn_b (fun r => mh_B (S 0) (N (S 0)) (fun r => co_h D S (ro_w (256 * r)) CS CC CO CI CW nc) (16 * S 0 + r)) (N (S 0)))) (toX, soX, nI nc, ouX, kyX, moX, diX, rrX, rwX, ceX, rcX, unX, rqX, taX, acX, sceX, srcX, sunX, srqX, staX, sacX, stX, cfX, cpX, chX, csX, okX, ocX, koX, kfX, cb, mk, fvX, ovX, rsX, rtX)) : wpX_markRowsThatHold post (toX, soX, nI nc, ouX, kyX, moX, diX, rrX, rwX, ceX, rcX, unX, rqX, taX, acX, sceX, srcX, sunX, srqX, staX, sacX, stX, cfX, cpX, chX, csX, okX, ocX, koX, kfX, cbX, mkX, fvX, ovX, rsX, rtX) := by
  have ht : S 0 < 3 := hk.2.2.1 0 (by decide)
  obtain ⟨hn, h16⟩ := hC.1 (S 0) ht
  refine loop_0 (fun n i s => wX_markRowsThatHold_2 post toX soX (nI nc) ouX kyX moX diX rrX rwX n (nI i) ceX rcX unX rqX taX acX sceX srcX sunX srqX staX sacX stX cfX cpX chX csX okX ocX koX kfX cbX s fvX ovX rsX rtX) (fun i s => ∀ x, x < i → s x = bo_i false) 48 mkX lt_0 ?_ ?_
  · intro n s hI
    refine br_t (by decide) (nm_r (hst 0 (by decide)) ⟨vp_in_nI ht (by decide), nm_r (e' := nI (N (S 0))) (by rw [nI_clamp (by omega), hn]) ?_⟩)
    generalize hP : (fun r => co_h D S (ro_w (256 * r)) CS CC CO CI CW nc) = P at h
    generalize hg : (fun r => mh_B (S 0) (N (S 0)) P (16 * S 0 + r)) = g at h
    refine loop_0 (fun n i (s : (Nat → Int32) × (Nat → Int32)) => wX_markRowsThatHold_40 post (nI (S 0)) (nI (N (S 0))) toX soX (nI nc) ouX kyX moX diX rrX rwX n (nI (cn_b g i)) (nI i) ceX rcX unX rqX taX acX sceX srcX sunX srqX staX sacX stX cfX cpX chX csX okX ocX koX kfX s.1 s.2 fvX ovX rsX rtX) (fun i s => ∀ x, x < 48 → s.2 x = bo_i (mh_B (S 0) i P x)) (N (S 0)) (cbX, s) (fun x hx => by rw [mh_0]; exact hI x hx) ?_ ?_
    · intro n s hI
      exact br_t (nI_le (Nat.le_refl _) (by omega)) (h _ _ hI)
    · intro n i s hi hI hn
      refine br_f (nI_ge hi (by omega)) (nm_e ?_)
      refine xm_holds (ρ := ro_w (256 * i)) hC hk hst hc (fun q hq => ?_) (fun z => ?_) (fun z => ?_)
      · have : q = 0 := by omega
        subst this
        rw [ro_256 (by omega)]
        exact ⟨pk_us, hi⟩
      · have hPi : P i := by rw [← hP]; exact z
        have hgi : g i = true := by rw [← hg]; exact (mh_r (by omega)).mpr ⟨hi, hPi⟩
        refine br_f (by decide) ⟨by rw [nz_16]; exact vp_in_nI (by omega) (by decide), nm_r (e' := upd s.2 (16 * S 0 + i) (bo_i true)) (by rw [nz_16, nI_clamp (by omega), bo_nar1]) (nm_r (e' := nI (cn_b g (i + 1))) (by rw [cn_t hgi, nI_1]) (nm_r (nI_1 i) (hn (_, _) (mh_t hPi (by omega) hI))))⟩
      · have hPi : ¬ P i := by rw [← hP]; exact z
        have hgi : ¬ g i = true := by rw [← hg]; exact fun w => hPi ((mh_r (by omega)).mp w).2
        refine br_t rfl (nm_r (nI_1 i) ?_)
        have := hn (upd s.1 0 (nI i), s.2) (mh_f hPi hI)
        rw [cn_f hgi] at this
        exact this
  · intro n i s hi hI hn
    refine br_f (nI_ge (b := 48) hi (by decide)) ⟨vp_in_nI hi (by decide), nm_e (nm_r (nI_1 i) (hn _ ?_))⟩
    rw [nI_clamp (by omega)]
    exact lt_s (fun j hj => by rw [pk_un (by omega)]; exact hI j hj) pk_us
end
