/-! what the walks take of the claim's classes, methods and words: decided by the kernel -/
section KENV
theorem k_me0 : ((List.range 20).all (fun y => w_mokb k_RW (k_mt (0 + y)))) = true := by decide +kernel
theorem k_me1 : ((List.range 20).all (fun y => w_mokb k_RW (k_mt (20 + y)))) = true := by decide +kernel
theorem k_me2 : ((List.range 20).all (fun y => w_mokb k_RW (k_mt (40 + y)))) = true := by decide +kernel
theorem k_me3 : ((List.range 20).all (fun y => w_mokb k_RW (k_mt (60 + y)))) = true := by decide +kernel
theorem k_me4 : ((List.range 20).all (fun y => w_mokb k_RW (k_mt (80 + y)))) = true := by decide +kernel
theorem k_me5 : ((List.range 20).all (fun y => w_mokb k_RW (k_mt (100 + y)))) = true := by decide +kernel
theorem k_me6 : ((List.range 20).all (fun y => w_mokb k_RW (k_mt (120 + y)))) = true := by decide +kernel
theorem k_me : ∀ y, w_mokb k_RW (k_mt y) = true := by
  intro y
  by_cases h0 : y < 20
  · obtain ⟨n, rfl, hn⟩ : ∃ n, y = 0 + n ∧ n < 20 := ⟨y - 0, by omega, by omega⟩
    exact List.all_eq_true.mp k_me0 n (List.mem_range.mpr hn)
  by_cases h1 : y < 40
  · obtain ⟨n, rfl, hn⟩ : ∃ n, y = 20 + n ∧ n < 20 := ⟨y - 20, by omega, by omega⟩
    exact List.all_eq_true.mp k_me1 n (List.mem_range.mpr hn)
  by_cases h2 : y < 60
  · obtain ⟨n, rfl, hn⟩ : ∃ n, y = 40 + n ∧ n < 20 := ⟨y - 40, by omega, by omega⟩
    exact List.all_eq_true.mp k_me2 n (List.mem_range.mpr hn)
  by_cases h3 : y < 80
  · obtain ⟨n, rfl, hn⟩ : ∃ n, y = 60 + n ∧ n < 20 := ⟨y - 60, by omega, by omega⟩
    exact List.all_eq_true.mp k_me3 n (List.mem_range.mpr hn)
  by_cases h4 : y < 100
  · obtain ⟨n, rfl, hn⟩ : ∃ n, y = 80 + n ∧ n < 20 := ⟨y - 80, by omega, by omega⟩
    exact List.all_eq_true.mp k_me4 n (List.mem_range.mpr hn)
  by_cases h5 : y < 120
  · obtain ⟨n, rfl, hn⟩ : ∃ n, y = 100 + n ∧ n < 20 := ⟨y - 100, by omega, by omega⟩
    exact List.all_eq_true.mp k_me5 n (List.mem_range.mpr hn)
  by_cases h6 : y < 140
  · obtain ⟨n, rfl, hn⟩ : ∃ n, y = 120 + n ∧ n < 20 := ⟨y - 120, by omega, by omega⟩
    exact List.all_eq_true.mp k_me6 n (List.mem_range.mpr hn)
  obtain ⟨n, rfl⟩ : ∃ n, y = n + 140 := ⟨y - 140, by omega⟩
  exact List.all_eq_true.mp k_me6 19 (by decide)
def k_ceb (C : String) (T : u_T) (N : Nat) : Bool := (u_ws C T N).all (fun w => decide (w ∈ k_RW) && x_gb w) && decide (Cond.instantiable C N ∈ k_RW) && x_gb (.instantiable C N) && decide (Cond.initialized C ∈ k_RW) && x_gb (.initialized C)
theorem k_ceb_ok {C : String} {T : u_T} {N : Nat} (h : k_ceb C T N = true) : (∀ w ∈ u_ws C T N, w ∈ w_TB k_RW) ∧ Cond.instantiable C N ∈ w_TB k_RW ∧ Cond.initialized C ∈ w_TB k_RW := by
  simp only [k_ceb, Bool.and_eq_true, decide_eq_true_eq, List.all_eq_true] at h
  obtain ⟨⟨⟨⟨h1, h2⟩, h3⟩, h4⟩, h5⟩ := h
  exact ⟨fun w hw => List.mem_filter.mpr (h1 w hw), List.mem_filter.mpr ⟨h2, h3⟩, List.mem_filter.mpr ⟨h4, h5⟩⟩
theorem k_ce0 : k_ceb "MirrorKeep" k_F0 11 = true := by decide +kernel
theorem k_ce1 : k_ceb "MirrorKeep$Tape" k_F1 3 = true := by decide +kernel
theorem k_ce2 : k_ceb "MirrorKeep$Tree" k_F2 2 = true := by decide +kernel
theorem k_ce3 : k_ceb "MirrorKeep$Entry" k_F3 5 = true := by decide +kernel
theorem k_ce4 : k_ceb "MirrorKeep$Changes" k_F4 3 = true := by decide +kernel
theorem k_ce5 : k_ceb "MirrorKeep$History" k_F5 2 = true := by decide +kernel
theorem k_ce6 : k_ceb "MirrorKeep$Session" k_F6 3 = true := by decide +kernel
theorem k_ce7 : k_ceb "MirrorKeepModel" k_F7 24 = true := by decide +kernel
theorem k_ce : w_ce k_RW k_cl k_fty k_dfl := by
  intro ci C T N h
  match ci, h with
  | 0, h => cases h; obtain ⟨a, b, c⟩ := k_ceb_ok k_ce0; exact ⟨a, by decide +kernel, by decide +kernel, b, c, by decide +kernel, rfl⟩
  | 1, h => cases h; obtain ⟨a, b, c⟩ := k_ceb_ok k_ce1; exact ⟨a, by decide +kernel, by decide +kernel, b, c, by decide +kernel, rfl⟩
  | 2, h => cases h; obtain ⟨a, b, c⟩ := k_ceb_ok k_ce2; exact ⟨a, by decide +kernel, by decide +kernel, b, c, by decide +kernel, rfl⟩
  | 3, h => cases h; obtain ⟨a, b, c⟩ := k_ceb_ok k_ce3; exact ⟨a, by decide +kernel, by decide +kernel, b, c, by decide +kernel, rfl⟩
  | 4, h => cases h; obtain ⟨a, b, c⟩ := k_ceb_ok k_ce4; exact ⟨a, by decide +kernel, by decide +kernel, b, c, by decide +kernel, rfl⟩
  | 5, h => cases h; obtain ⟨a, b, c⟩ := k_ceb_ok k_ce5; exact ⟨a, by decide +kernel, by decide +kernel, b, c, by decide +kernel, rfl⟩
  | 6, h => cases h; obtain ⟨a, b, c⟩ := k_ceb_ok k_ce6; exact ⟨a, by decide +kernel, by decide +kernel, b, c, by decide +kernel, rfl⟩
  | 7, h => cases h; obtain ⟨a, b, c⟩ := k_ceb_ok k_ce7; exact ⟨a, by decide +kernel, by decide +kernel, b, c, by decide +kernel, rfl⟩
  | k + 8, h => simp [k_cl] at h
def k_inb (w : Cond) : Bool := decide (w ∈ k_RW) && x_gb w
theorem k_inb_ok {w : Cond} (h : k_inb w = true) : w ∈ w_TB k_RW := by
  simp only [k_inb, Bool.and_eq_true, decide_eq_true_eq] at h
  exact List.mem_filter.mpr h
theorem k_we9 : (k_xcs.all fun q => (Bundle.ownAtoms "MirrorKeep" q.1 q.2 w_exN).all fun w => k_inb w || decide (w ∈ x_hw)) = true := by decide +kernel
theorem k_we : w_we k_RW k_xcs := by
  refine ⟨k_inb_ok (by decide +kernel), k_inb_ok (by decide +kernel), k_inb_ok (by decide +kernel), k_inb_ok (by decide +kernel), k_inb_ok (by decide +kernel), ⟨k_inb_ok (by decide +kernel), k_inb_ok (by decide +kernel), k_inb_ok (by decide +kernel), k_inb_ok (by decide +kernel), k_inb_ok (by decide +kernel)⟩, fun q hq => ⟨fun w hw => ?_, ?_, ?_⟩⟩
  · have h := List.all_eq_true.mp (List.all_eq_true.mp k_we9 q hq) w hw
    simp only [Bool.or_eq_true, decide_eq_true_eq] at h
    exact h.imp_left k_inb_ok
  · have h : (k_xcs.all fun q => k_inb (.initialized q.2)) = true := by decide +kernel
    exact k_inb_ok (List.all_eq_true.mp h q hq)
  · have h : (k_xcs.all fun q => Bundle.fit q.2) = true := by decide +kernel
    exact List.all_eq_true.mp h q hq
end KENV
