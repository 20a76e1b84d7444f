/-! ===== reckonAll, run ===== -/
theorem So_wl3n {τ α0 α1 α2 : Type} {Q : τ → Prop} {step : α0 → α1 → α2 → (α0 → α1 → α2 → Option τ) → Option τ} (I : Nat → α0 → α1 → α2 → Prop) (hs : ∀ k x0 x1 x2 rec, I k x0 x1 x2 → (∀ j y0 y1 y2, I j y0 y1 y2 → j < k → So (rec y0 y1 y2) Q) → So (step x0 x1 x2 rec) Q) : ∀ (n k : Nat) x0 x1 x2, I k x0 x1 x2 → k < n → So (wl3 step n x0 x1 x2) Q := by
  intro n
  induction n with
  | zero => intro k x0 x1 x2 _ h; omega
  | succ n ih =>
    intro k x0 x1 x2 hI hm
    exact hs k x0 x1 x2 _ hI (fun j y0 y1 y2 hy hl => ih j y0 y1 y2 hy (by omega))
def bot (s : List Int64) : Int64 := s.getD (s.length - 1) 0
theorem StK_push {u : Nat} {s : List Int64} {M : Mem} (v : Int64) (h : StK M u s) : StK (sJ M (u + 20) s.length v) u (v :: s) := by
  intro i hi
  simp only [List.length_cons] at hi
  rw [mJ_sJ]
  show (if u + 20 = u + 20 ∧ (s.length + 1) - 1 - i = s.length then v else mJ M (u + 20) ((s.length + 1) - 1 - i)) = _
  cases i with
  | zero => rw [if_pos ⟨rfl, by omega⟩]; rfl
  | succ i =>
    rw [if_neg (by omega), List.getD_cons_succ, ← h i (by omega)]
    congr 1; omega
theorem StK_tail {u : Nat} {s : List Int64} {x : Int64} {M : Mem} (h : StK M u (x :: s)) : StK M u s ∧ mJ M (u + 20) s.length = x := by
  refine ⟨fun i hi => ?_, ?_⟩
  · have := h (i + 1) (by simp only [List.length_cons]; omega)
    rw [List.getD_cons_succ] at this
    rw [← this]; simp only [List.length_cons]; congr 1; omega
  · have := h 0 (by simp)
    simpa using this
theorem reckonAll_so {u lo hi n : Nat} {M : Mem} {co ca : Nat → Int32} {lv : Int32 → Int32 → Int64} {res : Option (List Int64)} (hM : RcM u M hi co ca lv) (hn : n < 1000) (hlo : lo ≤ 400) (hj : ∀ k, k < hi → ¬ (co k).toInt < 29 → 0 ≤ (ca k).toInt) (hres : rcP co ca lv hi n lo [] = some res) : So (FX12_reckonAll u (Int32.ofNat lo) (Int32.ofNat hi) M) (fun N => RcE u M N ∧ match res with | none => mI N u 38 = 1 | some s => mI N u 38 = 0 ∧ mJ N u 39 = bot s) := by
  unfold FX12_reckonAll
  refine So_nm ?_
  refine So_wl3n (fun m h p N => ∃ q : Nat, ∃ s : List Int64, q < 2147483648 ∧ s.length ≤ 400 ∧ m ≤ 1001 ∧ p = Int32.ofNat q ∧ h = Int32.ofNat s.length ∧ RcE u M N ∧ ((mI N u 38 = 0 ∧ StK N u s ∧ rcP co ca lv hi m q s = some res) ∨ (mI N u 38 = 1 ∧ res = none))) ?_ fuel n 0 (Int32.ofNat lo) _ ⟨lo, [], by omega, by simp, by omega, rfl, rfl, RcE_b 0, Or.inl ⟨by rw [mI_sI, if_pos ⟨rfl, rfl⟩], fun i hi => absurd hi (by simp), hres⟩⟩ (by unfold fuel; omega)
  rintro m h p N rec ⟨q, s, hq, hs, hm, rfl, rfl, hE, hcase⟩ hr
  have hMN := hM.keep hE
  have hi4 : hi ≤ 400 := hM.1
  have fin : (match res with | none => mI N u 38 = 1 | some s' => mI N u 38 = 0 ∧ s = s' ∧ StK N u s) → So (jn1 (fun (v9 : Int64) => nm (sJ N u 39 v9) fun M12 => some M12) fun j10 => if (Int32.ofNat s.length) ≤ 0 then j10 0 else j10 (mJ N (u + 20) 0)) (fun N => RcE u M N ∧ match res with | none => mI N u 38 = 1 | some s => mI N u 38 = 0 ∧ mJ N u 39 = bot s) := by
    intro hf
    refine So_jn1 (So.ite (fun hc => So_nm (So.ok ⟨hE.tr (RcE_v _), ?_⟩)) (fun hc => So_nm (So.ok ⟨hE.tr (RcE_v _), ?_⟩)))
    · cases res with
      | none => exact hf
      | some s' =>
        obtain ⟨f1, rfl, f3⟩ := hf
        refine ⟨f1, ?_⟩
        rw [mJ_sJ, if_pos ⟨rfl, rfl⟩]
        have : s.length = 0 := by have := (nn_le (b := 0) (by omega) (by omega)).mp hc; omega
        rw [List.length_eq_zero_iff.mp this]; rfl
    · cases res with
      | none => exact hf
      | some s' =>
        obtain ⟨f1, rfl, f3⟩ := hf
        refine ⟨f1, ?_⟩
        rw [mJ_sJ, if_pos ⟨rfl, rfl⟩]
        have : 0 < s.length := by
          have : ¬ s.length ≤ 0 := fun z => hc ((nn_le (b := 0) (by omega) (by omega)).mpr z)
          omega
        have := f3 (s.length - 1) (by omega)
        rw [show s.length - 1 - (s.length - 1) = 0 by omega] at this
        exact this
  refine So_jn0 ?_
  rcases hcase with ⟨h38, hK, hrc⟩ | ⟨h38, hn2⟩
  · cases m with
    | zero => simp [rcP] at hrc
    | succ m =>
      unfold rcP at hrc
      by_cases hhi : hi ≤ q
      · rw [if_pos hhi] at hrc
        rw [if_pos ((nn_le (by omega) (by omega)).mpr hhi)]
        cases hrc
        exact fin ⟨h38, rfl, hK⟩
      · rw [if_neg hhi] at hrc
        rw [if_neg (fun z => hhi ((nn_le (by omega) (by omega)).mp z)), h38, if_neg (by decide)]
        sorry
  · subst hn2
    refine So.ite (fun _ => fin h38) (fun _ => ?_)
    rw [h38, if_pos (by decide)]; exact fin h38
