/-! grids that come back are grids -/
theorem gld_gok {β : Type} {i : Int32} {f : Nat → Option β} {r : β} (h : gld i f = some r) : ∃ t, gok t ∧ f t = some r := by
  unfold gld at h
  split at h
  next hin =>
    simp only [inb, Bool.and_eq_true, decide_eq_true_eq] at hin
    exact ⟨_, gk_gid hin.2, h⟩
  next => cases h
theorem gk_of_Q_gridAt {σ σ' : St} {v1 : Int32} {r : Nat} (h : f_Q_gridAt σ v1 = some (.ok r, σ')) : gok r := by
  unfold f_Q_gridAt jn at h
  refine if_go h (fun _ h => by cases h) (fun _ h => if_go h (fun _ h => if_go h (fun _ h => ?_) (fun _ h => by cases h)) (fun _ h => by cases h))
  obtain ⟨t, _, h⟩ := gld_gok h
  obtain ⟨t, ht, h⟩ := gld_gok h
  cases h
  exact ht
theorem gk_of_Q_newGrid {σ σ' : St} {v1 : Int32} {r : Nat} (h : f_Q_newGrid σ v1 = some (.ok r, σ')) : gok r := by
  unfold f_Q_newGrid jn at h
  refine if_go h (fun _ h => by cases h) (fun _ h => if_go h (fun _ h => ?_) (fun _ h => by cases h))
  obtain ⟨t, _, h⟩ := gld_gok h
  obtain ⟨t, ht, h⟩ := gld_gok h
  unfold sto at h
  obtain ⟨u, σ2, _, h⟩ := cal_go h
  cases h
  exact ht
