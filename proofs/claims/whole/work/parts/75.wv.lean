/-! the runs of the methods that catch -/
theorem wv_exchange {dd : Nat} {M M1 : Mem} {a b : Int32} {v : Int32} {f : Nat → Int64} {fs : List Value} (hcl : Cl dd kX5_exchange [.ref 0, .int a, .int b] M (.inl (some (.int v))) M1) (ho : mget M 0 = some (eO 5 fs)) (hf : mget M1 60 = some (eJ 1 f)) :
    WRun dd cdL_exchange rwL_exchange 5 [.ref 0, .int a, .int b, .ref 60] M 0 (mset M1 60 (eJ 1 (vp_updL f 0 v.toInt64))) := by
  intro P hP
  refine hP _ _ _ _ _ ?_; (conv => whnf)
  rw [ho]; (conv => whnf)
  refine ⟨by decide, Nat.le_of_ble_eq_true rfl, rfl, Or.inl ⟨_, _, hcl, ?_⟩⟩; (conv => whnf)
  rw [hf]; (conv => whnf)
  refine ⟨vi (n := 0) rfl (by decide) (by decide), ?_⟩; (conv => whnf)
  refine hP _ _ _ _ _ ?_; (conv => whnf)
  exact ⟨by decide, rfl, rfl⟩
theorem wt_exchange {dd : Nat} {M M1 : Mem} {a b : Int32} {x : Int32} {e : Nat} {fs : List Value} (hcl : Cl dd kX5_exchange [.ref 0, .int a, .int b] M (.inr e) M1) (ho : mget M 0 = some (eO 5 fs)) (hc : cdL_exchange e = some x) :
    WRun dd cdL_exchange rwL_exchange 5 [.ref 0, .int a, .int b, .ref 60] M x M1 := by
  intro P hP
  refine hP _ _ _ _ _ ?_; (conv => whnf)
  rw [ho]; (conv => whnf)
  exact ⟨by decide, Nat.le_of_ble_eq_true rfl, rfl, Or.inr ⟨e, hcl, hc⟩⟩
theorem wv_noteHas {dd : Nat} {M M1 : Mem} {a b : Int32} {v : Int32} {f : Nat → Int64} {fs : List Value} (hcl : Cl dd kX5_noteHas [.ref 0, .int a, .int b] M (.inl (some (.int v))) M1) (ho : mget M 0 = some (eO 5 fs)) (hf : mget M1 60 = some (eJ 1 f)) :
    WRun dd cdL_noteHas rwL_noteHas 5 [.ref 0, .int a, .int b, .ref 60] M 0 (mset M1 60 (eJ 1 (vp_updL f 0 v.toInt64))) := by
  intro P hP
  refine hP _ _ _ _ _ ?_; (conv => whnf)
  rw [ho]; (conv => whnf)
  refine ⟨by decide, Nat.le_of_ble_eq_true rfl, rfl, Or.inl ⟨_, _, hcl, ?_⟩⟩; (conv => whnf)
  rw [hf]; (conv => whnf)
  refine ⟨vi (n := 0) rfl (by decide) (by decide), ?_⟩; (conv => whnf)
  refine hP _ _ _ _ _ ?_; (conv => whnf)
  exact ⟨by decide, rfl, rfl⟩
theorem wt_noteHas {dd : Nat} {M M1 : Mem} {a b : Int32} {x : Int32} {e : Nat} {fs : List Value} (hcl : Cl dd kX5_noteHas [.ref 0, .int a, .int b] M (.inr e) M1) (ho : mget M 0 = some (eO 5 fs)) (hc : cdL_noteHas e = some x) :
    WRun dd cdL_noteHas rwL_noteHas 5 [.ref 0, .int a, .int b, .ref 60] M x M1 := by
  intro P hP
  refine hP _ _ _ _ _ ?_; (conv => whnf)
  rw [ho]; (conv => whnf)
  exact ⟨by decide, Nat.le_of_ble_eq_true rfl, rfl, Or.inr ⟨e, hcl, hc⟩⟩
theorem wv_noteLacks {dd : Nat} {M M1 : Mem} {a b : Int32} {v : Int32} {f : Nat → Int64} {fs : List Value} (hcl : Cl dd kX5_noteLacks [.ref 0, .int a, .int b] M (.inl (some (.int v))) M1) (ho : mget M 0 = some (eO 5 fs)) (hf : mget M1 60 = some (eJ 1 f)) :
    WRun dd cdL_noteLacks rwL_noteLacks 5 [.ref 0, .int a, .int b, .ref 60] M 0 (mset M1 60 (eJ 1 (vp_updL f 0 v.toInt64))) := by
  intro P hP
  refine hP _ _ _ _ _ ?_; (conv => whnf)
  rw [ho]; (conv => whnf)
  refine ⟨by decide, Nat.le_of_ble_eq_true rfl, rfl, Or.inl ⟨_, _, hcl, ?_⟩⟩; (conv => whnf)
  rw [hf]; (conv => whnf)
  refine ⟨vi (n := 0) rfl (by decide) (by decide), ?_⟩; (conv => whnf)
  refine hP _ _ _ _ _ ?_; (conv => whnf)
  exact ⟨by decide, rfl, rfl⟩
theorem wt_noteLacks {dd : Nat} {M M1 : Mem} {a b : Int32} {x : Int32} {e : Nat} {fs : List Value} (hcl : Cl dd kX5_noteLacks [.ref 0, .int a, .int b] M (.inr e) M1) (ho : mget M 0 = some (eO 5 fs)) (hc : cdL_noteLacks e = some x) :
    WRun dd cdL_noteLacks rwL_noteLacks 5 [.ref 0, .int a, .int b, .ref 60] M x M1 := by
  intro P hP
  refine hP _ _ _ _ _ ?_; (conv => whnf)
  rw [ho]; (conv => whnf)
  exact ⟨by decide, Nat.le_of_ble_eq_true rfl, rfl, Or.inr ⟨e, hcl, hc⟩⟩
theorem wv_noteShows {dd : Nat} {M M1 : Mem} {a b c d : Int32} {v : Int32} {f : Nat → Int64} {fs : List Value} (hcl : Cl dd kX5_noteShows [.ref 0, .int a, .int b, .int c, .int d] M (.inl (some (.int v))) M1) (ho : mget M 0 = some (eO 5 fs)) (hf : mget M1 60 = some (eJ 1 f)) :
    WRun dd cdL_noteShows rwL_noteShows 7 [.ref 0, .int a, .int b, .int c, .int d, .ref 60] M 0 (mset M1 60 (eJ 1 (vp_updL f 0 v.toInt64))) := by
  intro P hP
  refine hP _ _ _ _ _ ?_; (conv => whnf)
  rw [ho]; (conv => whnf)
  refine ⟨by decide, Nat.le_of_ble_eq_true rfl, rfl, Or.inl ⟨_, _, hcl, ?_⟩⟩; (conv => whnf)
  rw [hf]; (conv => whnf)
  refine ⟨vi (n := 0) rfl (by decide) (by decide), ?_⟩; (conv => whnf)
  refine hP _ _ _ _ _ ?_; (conv => whnf)
  exact ⟨by decide, rfl, rfl⟩
theorem wt_noteShows {dd : Nat} {M M1 : Mem} {a b c d : Int32} {x : Int32} {e : Nat} {fs : List Value} (hcl : Cl dd kX5_noteShows [.ref 0, .int a, .int b, .int c, .int d] M (.inr e) M1) (ho : mget M 0 = some (eO 5 fs)) (hc : cdL_noteShows e = some x) :
    WRun dd cdL_noteShows rwL_noteShows 7 [.ref 0, .int a, .int b, .int c, .int d, .ref 60] M x M1 := by
  intro P hP
  refine hP _ _ _ _ _ ?_; (conv => whnf)
  rw [ho]; (conv => whnf)
  exact ⟨by decide, Nat.le_of_ble_eq_true rfl, rfl, Or.inr ⟨e, hcl, hc⟩⟩
theorem wv_dropClue {dd : Nat} {M M1 : Mem} {a : Int32} {v : Int32} {f : Nat → Int64} {fs : List Value} (hcl : Cl dd kX5_dropClue [.ref 0, .int a] M (.inl (some (.int v))) M1) (ho : mget M 0 = some (eO 5 fs)) (hf : mget M1 60 = some (eJ 1 f)) :
    WRun dd cdL_dropClue rwL_dropClue 4 [.ref 0, .int a, .ref 60] M 0 (mset M1 60 (eJ 1 (vp_updL f 0 v.toInt64))) := by
  intro P hP
  refine hP _ _ _ _ _ ?_; (conv => whnf)
  rw [ho]; (conv => whnf)
  refine ⟨by decide, Nat.le_of_ble_eq_true rfl, rfl, Or.inl ⟨_, _, hcl, ?_⟩⟩; (conv => whnf)
  rw [hf]; (conv => whnf)
  refine ⟨vi (n := 0) rfl (by decide) (by decide), ?_⟩; (conv => whnf)
  refine hP _ _ _ _ _ ?_; (conv => whnf)
  exact ⟨by decide, rfl, rfl⟩
theorem wt_dropClue {dd : Nat} {M M1 : Mem} {a : Int32} {x : Int32} {e : Nat} {fs : List Value} (hcl : Cl dd kX5_dropClue [.ref 0, .int a] M (.inr e) M1) (ho : mget M 0 = some (eO 5 fs)) (hc : cdL_dropClue e = some x) :
    WRun dd cdL_dropClue rwL_dropClue 4 [.ref 0, .int a, .ref 60] M x M1 := by
  intro P hP
  refine hP _ _ _ _ _ ?_; (conv => whnf)
  rw [ho]; (conv => whnf)
  exact ⟨by decide, Nat.le_of_ble_eq_true rfl, rfl, Or.inr ⟨e, hcl, hc⟩⟩
theorem wv_ask {dd : Nat} {M M1 : Mem} {a b c d : Int32} {v : Int32} {w : Int64} {f : Nat → Int64} {fs : List Value} (hcl : Cl dd kX5_ask [.ref 0, .int a, .int b, .int c, .int d] M (.inl (some (.int v))) M1) (ho : mget M 0 = some (eO 5 fs)) (hf : mget M1 60 = some (eJ 1 f)) (hw : (v = 0 → w = 0) ∧ (¬ v = 0 → w = 1)) :
    WRun dd cdL_ask rwL_ask 7 [.ref 0, .int a, .int b, .int c, .int d, .ref 60] M 0 (mset M1 60 (eJ 1 (vp_updL f 0 w))) := by
  intro P hP
  refine hP _ _ _ _ _ ?_; (conv => whnf)
  rw [ho]; (conv => whnf)
  refine ⟨by decide, Nat.le_of_ble_eq_true rfl, rfl, Or.inl ⟨_, _, hcl, ?_⟩⟩; (conv => whnf)
  refine ⟨fun z => ?_, fun z => ?_⟩
  · obtain rfl := hw.1 z
    refine hP _ _ _ _ _ ?_; (conv => whnf)
    rw [hf]; (conv => whnf)
    refine ⟨vi (n := 0) rfl (by decide) (by decide), ?_⟩; (conv => whnf)
    refine hP _ _ _ _ _ ?_; (conv => whnf)
    exact ⟨by decide, rfl, rfl⟩
  · obtain rfl := hw.2 z
    (conv => whnf)
    refine hP _ _ _ _ _ ?_; (conv => whnf)
    rw [hf]; (conv => whnf)
    refine ⟨vi (n := 0) rfl (by decide) (by decide), ?_⟩; (conv => whnf)
    refine hP _ _ _ _ _ ?_; (conv => whnf)
    exact ⟨by decide, rfl, rfl⟩
theorem wt_ask {dd : Nat} {M M1 : Mem} {a b c d : Int32} {x : Int32} {e : Nat} {fs : List Value} (hcl : Cl dd kX5_ask [.ref 0, .int a, .int b, .int c, .int d] M (.inr e) M1) (ho : mget M 0 = some (eO 5 fs)) (hc : cdL_ask e = some x) :
    WRun dd cdL_ask rwL_ask 7 [.ref 0, .int a, .int b, .int c, .int d, .ref 60] M x M1 := by
  intro P hP
  refine hP _ _ _ _ _ ?_; (conv => whnf)
  rw [ho]; (conv => whnf)
  exact ⟨by decide, Nat.le_of_ble_eq_true rfl, rfl, Or.inr ⟨e, hcl, hc⟩⟩
theorem wv_look {dd : Nat} {M M1 : Mem} {a b c d : Int32} {v : Int32} {f : Nat → Int64} {fs : List Value} (hcl : Cl dd kX5_look [.ref 0, .int a, .int b, .int c, .int d] M (.inl (some (.int v))) M1) (ho : mget M 0 = some (eO 5 fs)) (hf : mget M1 60 = some (eJ 1 f)) :
    WRun dd cdL_look rwL_look 7 [.ref 0, .int a, .int b, .int c, .int d, .ref 60] M 0 (mset M1 60 (eJ 1 (vp_updL f 0 v.toInt64))) := by
  intro P hP
  refine hP _ _ _ _ _ ?_; (conv => whnf)
  rw [ho]; (conv => whnf)
  refine ⟨by decide, Nat.le_of_ble_eq_true rfl, rfl, Or.inl ⟨_, _, hcl, ?_⟩⟩; (conv => whnf)
  rw [hf]; (conv => whnf)
  refine ⟨vi (n := 0) rfl (by decide) (by decide), ?_⟩; (conv => whnf)
  refine hP _ _ _ _ _ ?_; (conv => whnf)
  exact ⟨by decide, rfl, rfl⟩
theorem wt_look {dd : Nat} {M M1 : Mem} {a b c d : Int32} {x : Int32} {e : Nat} {fs : List Value} (hcl : Cl dd kX5_look [.ref 0, .int a, .int b, .int c, .int d] M (.inr e) M1) (ho : mget M 0 = some (eO 5 fs)) (hc : cdL_look e = some x) :
    WRun dd cdL_look rwL_look 7 [.ref 0, .int a, .int b, .int c, .int d, .ref 60] M x M1 := by
  intro P hP
  refine hP _ _ _ _ _ ?_; (conv => whnf)
  rw [ho]; (conv => whnf)
  exact ⟨by decide, Nat.le_of_ble_eq_true rfl, rfl, Or.inr ⟨e, hcl, hc⟩⟩
theorem wv_accuse {dd : Nat} {M M1 : Mem} {a b c : Int32} {v : Int32} {w : Int64} {f : Nat → Int64} {fs : List Value} (hcl : Cl dd kX5_accuse [.ref 0, .int a, .int b, .int c] M (.inl (some (.int v))) M1) (ho : mget M 0 = some (eO 5 fs)) (hf : mget M1 60 = some (eJ 1 f)) (hw : (v = 0 → w = 0) ∧ (¬ v = 0 → w = 1)) :
    WRun dd cdL_accuse rwL_accuse 6 [.ref 0, .int a, .int b, .int c, .ref 60] M 0 (mset M1 60 (eJ 1 (vp_updL f 0 w))) := by
  intro P hP
  refine hP _ _ _ _ _ ?_; (conv => whnf)
  rw [ho]; (conv => whnf)
  refine ⟨by decide, Nat.le_of_ble_eq_true rfl, rfl, Or.inl ⟨_, _, hcl, ?_⟩⟩; (conv => whnf)
  refine ⟨fun z => ?_, fun z => ?_⟩
  · obtain rfl := hw.1 z
    refine hP _ _ _ _ _ ?_; (conv => whnf)
    rw [hf]; (conv => whnf)
    refine ⟨vi (n := 0) rfl (by decide) (by decide), ?_⟩; (conv => whnf)
    refine hP _ _ _ _ _ ?_; (conv => whnf)
    exact ⟨by decide, rfl, rfl⟩
  · obtain rfl := hw.2 z
    (conv => whnf)
    refine hP _ _ _ _ _ ?_; (conv => whnf)
    rw [hf]; (conv => whnf)
    refine ⟨vi (n := 0) rfl (by decide) (by decide), ?_⟩; (conv => whnf)
    refine hP _ _ _ _ _ ?_; (conv => whnf)
    exact ⟨by decide, rfl, rfl⟩
theorem wt_accuse {dd : Nat} {M M1 : Mem} {a b c : Int32} {x : Int32} {e : Nat} {fs : List Value} (hcl : Cl dd kX5_accuse [.ref 0, .int a, .int b, .int c] M (.inr e) M1) (ho : mget M 0 = some (eO 5 fs)) (hc : cdL_accuse e = some x) :
    WRun dd cdL_accuse rwL_accuse 6 [.ref 0, .int a, .int b, .int c, .ref 60] M x M1 := by
  intro P hP
  refine hP _ _ _ _ _ ?_; (conv => whnf)
  rw [ho]; (conv => whnf)
  exact ⟨by decide, Nat.le_of_ble_eq_true rfl, rfl, Or.inr ⟨e, hcl, hc⟩⟩
theorem wv_append {dd : Nat} {M M1 : Mem} {a : Int32} {v : Int32} {f : Nat → Int64} {fs : List Value} (hcl : Cl dd kX5_append [.ref 0, .int a] M (.inl (some (.int v))) M1) (ho : mget M 0 = some (eO 5 fs)) (hf : mget M1 60 = some (eJ 1 f)) :
    WRun dd cdL_append rwL_append 4 [.ref 0, .int a, .ref 60] M 0 (mset M1 60 (eJ 1 (vp_updL f 0 v.toInt64))) := by
  intro P hP
  refine hP _ _ _ _ _ ?_; (conv => whnf)
  rw [ho]; (conv => whnf)
  refine ⟨by decide, Nat.le_of_ble_eq_true rfl, rfl, Or.inl ⟨_, _, hcl, ?_⟩⟩; (conv => whnf)
  rw [hf]; (conv => whnf)
  refine ⟨vi (n := 0) rfl (by decide) (by decide), ?_⟩; (conv => whnf)
  refine hP _ _ _ _ _ ?_; (conv => whnf)
  exact ⟨by decide, rfl, rfl⟩
theorem wt_append {dd : Nat} {M M1 : Mem} {a : Int32} {x : Int32} {e : Nat} {fs : List Value} (hcl : Cl dd kX5_append [.ref 0, .int a] M (.inr e) M1) (ho : mget M 0 = some (eO 5 fs)) (hc : cdL_append e = some x) :
    WRun dd cdL_append rwL_append 4 [.ref 0, .int a, .ref 60] M x M1 := by
  intro P hP
  refine hP _ _ _ _ _ ?_; (conv => whnf)
  rw [ho]; (conv => whnf)
  exact ⟨by decide, Nat.le_of_ble_eq_true rfl, rfl, Or.inr ⟨e, hcl, hc⟩⟩
theorem wv_work {dd : Nat} {M M1 : Mem} {v : Int32} {f : Nat → Int64} {fs : List Value} (hcl : Cl dd kX5_work [.ref 0] M (.inl (some (.int v))) M1) (ho : mget M 0 = some (eO 5 fs)) (hf : mget M1 60 = some (eJ 1 f)) :
    WRun dd cdL_work rwL_work 3 [.ref 0, .ref 60] M 0 (mset M1 60 (eJ 1 (vp_updL f 0 v.toInt64))) := by
  intro P hP
  refine hP _ _ _ _ _ ?_; (conv => whnf)
  rw [ho]; (conv => whnf)
  refine ⟨by decide, Nat.le_of_ble_eq_true rfl, rfl, Or.inl ⟨_, _, hcl, ?_⟩⟩; (conv => whnf)
  rw [hf]; (conv => whnf)
  refine ⟨vi (n := 0) rfl (by decide) (by decide), ?_⟩; (conv => whnf)
  refine hP _ _ _ _ _ ?_; (conv => whnf)
  exact ⟨by decide, rfl, rfl⟩
theorem wt_work {dd : Nat} {M M1 : Mem} {x : Int32} {e : Nat} {fs : List Value} (hcl : Cl dd kX5_work [.ref 0] M (.inr e) M1) (ho : mget M 0 = some (eO 5 fs)) (hc : cdL_work e = some x) :
    WRun dd cdL_work rwL_work 3 [.ref 0, .ref 60] M x M1 := by
  intro P hP
  refine hP _ _ _ _ _ ?_; (conv => whnf)
  rw [ho]; (conv => whnf)
  exact ⟨by decide, Nat.le_of_ble_eq_true rfl, rfl, Or.inr ⟨e, hcl, hc⟩⟩
theorem wv_stoppedPart {dd : Nat} {M M1 : Mem} {v : Int32} {f : Nat → Int64} {fs : List Value} (hcl : Cl dd kX5_stoppedPart [.ref 0] M (.inl (some (.int v))) M1) (ho : mget M 0 = some (eO 5 fs)) (hf : mget M1 60 = some (eJ 1 f)) :
    WRun dd cdL_stoppedPart rwL_stoppedPart 3 [.ref 0, .ref 60] M 0 (mset M1 60 (eJ 1 (vp_updL f 0 v.toInt64))) := by
  intro P hP
  refine hP _ _ _ _ _ ?_; (conv => whnf)
  rw [ho]; (conv => whnf)
  refine ⟨by decide, Nat.le_of_ble_eq_true rfl, rfl, Or.inl ⟨_, _, hcl, ?_⟩⟩; (conv => whnf)
  rw [hf]; (conv => whnf)
  refine ⟨vi (n := 0) rfl (by decide) (by decide), ?_⟩; (conv => whnf)
  refine hP _ _ _ _ _ ?_; (conv => whnf)
  exact ⟨by decide, rfl, rfl⟩
theorem wt_stoppedPart {dd : Nat} {M M1 : Mem} {x : Int32} {e : Nat} {fs : List Value} (hcl : Cl dd kX5_stoppedPart [.ref 0] M (.inr e) M1) (ho : mget M 0 = some (eO 5 fs)) (hc : cdL_stoppedPart e = some x) :
    WRun dd cdL_stoppedPart rwL_stoppedPart 3 [.ref 0, .ref 60] M x M1 := by
  intro P hP
  refine hP _ _ _ _ _ ?_; (conv => whnf)
  rw [ho]; (conv => whnf)
  exact ⟨by decide, Nat.le_of_ble_eq_true rfl, rfl, Or.inr ⟨e, hcl, hc⟩⟩
theorem wv_whyStopped {dd : Nat} {M M1 : Mem} {v : Int32} {f : Nat → Int64} {fs : List Value} (hcl : Cl dd kX5_whyStopped [.ref 0] M (.inl (some (.int v))) M1) (ho : mget M 0 = some (eO 5 fs)) (hf : mget M1 60 = some (eJ 1 f)) :
    WRun dd cdL_whyStopped rwL_whyStopped 3 [.ref 0, .ref 60] M 0 (mset M1 60 (eJ 1 (vp_updL f 0 v.toInt64))) := by
  intro P hP
  refine hP _ _ _ _ _ ?_; (conv => whnf)
  rw [ho]; (conv => whnf)
  refine ⟨by decide, Nat.le_of_ble_eq_true rfl, rfl, Or.inl ⟨_, _, hcl, ?_⟩⟩; (conv => whnf)
  rw [hf]; (conv => whnf)
  refine ⟨vi (n := 0) rfl (by decide) (by decide), ?_⟩; (conv => whnf)
  refine hP _ _ _ _ _ ?_; (conv => whnf)
  exact ⟨by decide, rfl, rfl⟩
theorem wt_whyStopped {dd : Nat} {M M1 : Mem} {x : Int32} {e : Nat} {fs : List Value} (hcl : Cl dd kX5_whyStopped [.ref 0] M (.inr e) M1) (ho : mget M 0 = some (eO 5 fs)) (hc : cdL_whyStopped e = some x) :
    WRun dd cdL_whyStopped rwL_whyStopped 3 [.ref 0, .ref 60] M x M1 := by
  intro P hP
  refine hP _ _ _ _ _ ?_; (conv => whnf)
  rw [ho]; (conv => whnf)
  exact ⟨by decide, Nat.le_of_ble_eq_true rfl, rfl, Or.inr ⟨e, hcl, hc⟩⟩
theorem wv_undo {dd : Nat} {M M1 : Mem} {v : Int32} {f : Nat → Int64} {fs : List Value} (hcl : Cl dd kX5_undo [.ref 0] M (.inl (some (.int v))) M1) (ho : mget M 0 = some (eO 5 fs)) (hf : mget M1 60 = some (eJ 1 f)) :
    WRun dd cdL_undo rwL_undo 3 [.ref 0, .ref 60] M 0 (mset M1 60 (eJ 1 (vp_updL f 0 v.toInt64))) := by
  intro P hP
  refine hP _ _ _ _ _ ?_; (conv => whnf)
  rw [ho]; (conv => whnf)
  refine ⟨by decide, Nat.le_of_ble_eq_true rfl, rfl, Or.inl ⟨_, _, hcl, ?_⟩⟩; (conv => whnf)
  rw [hf]; (conv => whnf)
  refine ⟨vi (n := 0) rfl (by decide) (by decide), ?_⟩; (conv => whnf)
  refine hP _ _ _ _ _ ?_; (conv => whnf)
  exact ⟨by decide, rfl, rfl⟩
theorem wt_undo {dd : Nat} {M M1 : Mem} {x : Int32} {e : Nat} {fs : List Value} (hcl : Cl dd kX5_undo [.ref 0] M (.inr e) M1) (ho : mget M 0 = some (eO 5 fs)) (hc : cdL_undo e = some x) :
    WRun dd cdL_undo rwL_undo 3 [.ref 0, .ref 60] M x M1 := by
  intro P hP
  refine hP _ _ _ _ _ ?_; (conv => whnf)
  rw [ho]; (conv => whnf)
  exact ⟨by decide, Nat.le_of_ble_eq_true rfl, rfl, Or.inr ⟨e, hcl, hc⟩⟩
theorem wv_restore {dd : Nat} {M M1 : Mem} {v : Int32} {f : Nat → Int64} {fs : List Value} (hcl : Cl dd kX5_restore [.ref 0] M (.inl (some (.int v))) M1) (ho : mget M 0 = some (eO 5 fs)) (hf : mget M1 60 = some (eJ 1 f)) :
    WRun dd cdL_restore rwL_restore 3 [.ref 0, .ref 60] M 0 (mset M1 60 (eJ 1 (vp_updL f 0 v.toInt64))) := by
  intro P hP
  refine hP _ _ _ _ _ ?_; (conv => whnf)
  rw [ho]; (conv => whnf)
  refine ⟨by decide, Nat.le_of_ble_eq_true rfl, rfl, Or.inl ⟨_, _, hcl, ?_⟩⟩; (conv => whnf)
  rw [hf]; (conv => whnf)
  refine ⟨vi (n := 0) rfl (by decide) (by decide), ?_⟩; (conv => whnf)
  refine hP _ _ _ _ _ ?_; (conv => whnf)
  exact ⟨by decide, rfl, rfl⟩
theorem wt_restore {dd : Nat} {M M1 : Mem} {x : Int32} {e : Nat} {fs : List Value} (hcl : Cl dd kX5_restore [.ref 0] M (.inr e) M1) (ho : mget M 0 = some (eO 5 fs)) (hc : cdL_restore e = some x) :
    WRun dd cdL_restore rwL_restore 3 [.ref 0, .ref 60] M x M1 := by
  intro P hP
  refine hP _ _ _ _ _ ?_; (conv => whnf)
  rw [ho]; (conv => whnf)
  exact ⟨by decide, Nat.le_of_ble_eq_true rfl, rfl, Or.inr ⟨e, hcl, hc⟩⟩
theorem wv_truePlace {dd : Nat} {M M1 : Mem} {a : Int32} {v : Int32} {f : Nat → Int64} {fs : List Value} (hcl : Cl dd kX5_truePlace [.ref 0, .int a] M (.inl (some (.int v))) M1) (ho : mget M 0 = some (eO 5 fs)) (hf : mget M1 60 = some (eJ 1 f)) :
    WRun dd cdL_truePlace rwL_truePlace 4 [.ref 0, .int a, .ref 60] M 0 (mset M1 60 (eJ 1 (vp_updL f 0 v.toInt64))) := by
  intro P hP
  refine hP _ _ _ _ _ ?_; (conv => whnf)
  rw [ho]; (conv => whnf)
  refine ⟨by decide, Nat.le_of_ble_eq_true rfl, rfl, Or.inl ⟨_, _, hcl, ?_⟩⟩; (conv => whnf)
  rw [hf]; (conv => whnf)
  refine ⟨vi (n := 0) rfl (by decide) (by decide), ?_⟩; (conv => whnf)
  refine hP _ _ _ _ _ ?_; (conv => whnf)
  exact ⟨by decide, rfl, rfl⟩
theorem wt_truePlace {dd : Nat} {M M1 : Mem} {a : Int32} {x : Int32} {e : Nat} {fs : List Value} (hcl : Cl dd kX5_truePlace [.ref 0, .int a] M (.inr e) M1) (ho : mget M 0 = some (eO 5 fs)) (hc : cdL_truePlace e = some x) :
    WRun dd cdL_truePlace rwL_truePlace 4 [.ref 0, .int a, .ref 60] M x M1 := by
  intro P hP
  refine hP _ _ _ _ _ ?_; (conv => whnf)
  rw [ho]; (conv => whnf)
  exact ⟨by decide, Nat.le_of_ble_eq_true rfl, rfl, Or.inr ⟨e, hcl, hc⟩⟩
theorem wv_kindOf {dd : Nat} {M M1 : Mem} {a : Int32} {v : Int32} {f : Nat → Int64} {fs : List Value} (hcl : Cl dd kX5_kindOf [.ref 0, .int a] M (.inl (some (.int v))) M1) (ho : mget M 0 = some (eO 5 fs)) (hf : mget M1 60 = some (eJ 1 f)) :
    WRun dd cdL_kindOf rwL_kindOf 4 [.ref 0, .int a, .ref 60] M 0 (mset M1 60 (eJ 1 (vp_updL f 0 v.toInt64))) := by
  intro P hP
  refine hP _ _ _ _ _ ?_; (conv => whnf)
  rw [ho]; (conv => whnf)
  refine ⟨by decide, Nat.le_of_ble_eq_true rfl, rfl, Or.inl ⟨_, _, hcl, ?_⟩⟩; (conv => whnf)
  rw [hf]; (conv => whnf)
  refine ⟨vi (n := 0) rfl (by decide) (by decide), ?_⟩; (conv => whnf)
  refine hP _ _ _ _ _ ?_; (conv => whnf)
  exact ⟨by decide, rfl, rfl⟩
theorem wt_kindOf {dd : Nat} {M M1 : Mem} {a : Int32} {x : Int32} {e : Nat} {fs : List Value} (hcl : Cl dd kX5_kindOf [.ref 0, .int a] M (.inr e) M1) (ho : mget M 0 = some (eO 5 fs)) (hc : cdL_kindOf e = some x) :
    WRun dd cdL_kindOf rwL_kindOf 4 [.ref 0, .int a, .ref 60] M x M1 := by
  intro P hP
  refine hP _ _ _ _ _ ?_; (conv => whnf)
  rw [ho]; (conv => whnf)
  exact ⟨by decide, Nat.le_of_ble_eq_true rfl, rfl, Or.inr ⟨e, hcl, hc⟩⟩
theorem wv_playerOf {dd : Nat} {M M1 : Mem} {a : Int32} {v : Int32} {f : Nat → Int64} {fs : List Value} (hcl : Cl dd kX5_playerOf [.ref 0, .int a] M (.inl (some (.int v))) M1) (ho : mget M 0 = some (eO 5 fs)) (hf : mget M1 60 = some (eJ 1 f)) :
    WRun dd cdL_playerOf rwL_playerOf 4 [.ref 0, .int a, .ref 60] M 0 (mset M1 60 (eJ 1 (vp_updL f 0 v.toInt64))) := by
  intro P hP
  refine hP _ _ _ _ _ ?_; (conv => whnf)
  rw [ho]; (conv => whnf)
  refine ⟨by decide, Nat.le_of_ble_eq_true rfl, rfl, Or.inl ⟨_, _, hcl, ?_⟩⟩; (conv => whnf)
  rw [hf]; (conv => whnf)
  refine ⟨vi (n := 0) rfl (by decide) (by decide), ?_⟩; (conv => whnf)
  refine hP _ _ _ _ _ ?_; (conv => whnf)
  exact ⟨by decide, rfl, rfl⟩
theorem wt_playerOf {dd : Nat} {M M1 : Mem} {a : Int32} {x : Int32} {e : Nat} {fs : List Value} (hcl : Cl dd kX5_playerOf [.ref 0, .int a] M (.inr e) M1) (ho : mget M 0 = some (eO 5 fs)) (hc : cdL_playerOf e = some x) :
    WRun dd cdL_playerOf rwL_playerOf 4 [.ref 0, .int a, .ref 60] M x M1 := by
  intro P hP
  refine hP _ _ _ _ _ ?_; (conv => whnf)
  rw [ho]; (conv => whnf)
  exact ⟨by decide, Nat.le_of_ble_eq_true rfl, rfl, Or.inr ⟨e, hcl, hc⟩⟩
theorem wv_cardsOf {dd : Nat} {M M1 : Mem} {a : Int32} {v : Int32} {f : Nat → Int64} {fs : List Value} (hcl : Cl dd kX5_cardsOf [.ref 0, .int a] M (.inl (some (.int v))) M1) (ho : mget M 0 = some (eO 5 fs)) (hf : mget M1 60 = some (eJ 1 f)) :
    WRun dd cdL_cardsOf rwL_cardsOf 4 [.ref 0, .int a, .ref 60] M 0 (mset M1 60 (eJ 1 (vp_updL f 0 v.toInt64))) := by
  intro P hP
  refine hP _ _ _ _ _ ?_; (conv => whnf)
  rw [ho]; (conv => whnf)
  refine ⟨by decide, Nat.le_of_ble_eq_true rfl, rfl, Or.inl ⟨_, _, hcl, ?_⟩⟩; (conv => whnf)
  rw [hf]; (conv => whnf)
  refine ⟨vi (n := 0) rfl (by decide) (by decide), ?_⟩; (conv => whnf)
  refine hP _ _ _ _ _ ?_; (conv => whnf)
  exact ⟨by decide, rfl, rfl⟩
theorem wt_cardsOf {dd : Nat} {M M1 : Mem} {a : Int32} {x : Int32} {e : Nat} {fs : List Value} (hcl : Cl dd kX5_cardsOf [.ref 0, .int a] M (.inr e) M1) (ho : mget M 0 = some (eO 5 fs)) (hc : cdL_cardsOf e = some x) :
    WRun dd cdL_cardsOf rwL_cardsOf 4 [.ref 0, .int a, .ref 60] M x M1 := by
  intro P hP
  refine hP _ _ _ _ _ ?_; (conv => whnf)
  rw [ho]; (conv => whnf)
  exact ⟨by decide, Nat.le_of_ble_eq_true rfl, rfl, Or.inr ⟨e, hcl, hc⟩⟩
theorem wv_isTrue {dd : Nat} {M M1 : Mem} {a : Int32} {v : Int32} {w : Int64} {f : Nat → Int64} {fs : List Value} (hcl : Cl dd kX5_isTrue [.ref 0, .int a] M (.inl (some (.int v))) M1) (ho : mget M 0 = some (eO 5 fs)) (hf : mget M1 60 = some (eJ 1 f)) (hw : (v = 0 → w = 0) ∧ (¬ v = 0 → w = 1)) :
    WRun dd cdL_isTrue rwL_isTrue 4 [.ref 0, .int a, .ref 60] M 0 (mset M1 60 (eJ 1 (vp_updL f 0 w))) := by
  intro P hP
  refine hP _ _ _ _ _ ?_; (conv => whnf)
  rw [ho]; (conv => whnf)
  refine ⟨by decide, Nat.le_of_ble_eq_true rfl, rfl, Or.inl ⟨_, _, hcl, ?_⟩⟩; (conv => whnf)
  refine ⟨fun z => ?_, fun z => ?_⟩
  · obtain rfl := hw.1 z
    refine hP _ _ _ _ _ ?_; (conv => whnf)
    rw [hf]; (conv => whnf)
    refine ⟨vi (n := 0) rfl (by decide) (by decide), ?_⟩; (conv => whnf)
    refine hP _ _ _ _ _ ?_; (conv => whnf)
    exact ⟨by decide, rfl, rfl⟩
  · obtain rfl := hw.2 z
    (conv => whnf)
    refine hP _ _ _ _ _ ?_; (conv => whnf)
    rw [hf]; (conv => whnf)
    refine ⟨vi (n := 0) rfl (by decide) (by decide), ?_⟩; (conv => whnf)
    refine hP _ _ _ _ _ ?_; (conv => whnf)
    exact ⟨by decide, rfl, rfl⟩
theorem wt_isTrue {dd : Nat} {M M1 : Mem} {a : Int32} {x : Int32} {e : Nat} {fs : List Value} (hcl : Cl dd kX5_isTrue [.ref 0, .int a] M (.inr e) M1) (ho : mget M 0 = some (eO 5 fs)) (hc : cdL_isTrue e = some x) :
    WRun dd cdL_isTrue rwL_isTrue 4 [.ref 0, .int a, .ref 60] M x M1 := by
  intro P hP
  refine hP _ _ _ _ _ ?_; (conv => whnf)
  rw [ho]; (conv => whnf)
  exact ⟨by decide, Nat.le_of_ble_eq_true rfl, rfl, Or.inr ⟨e, hcl, hc⟩⟩
theorem wv_dealsWith {dd : Nat} {M M1 : Mem} {a b : Int32} {v : Int32} {f : Nat → Int64} {fs : List Value} (hcl : Cl dd kX5_dealsWith [.ref 0, .int a, .int b] M (.inl (some (.int v))) M1) (ho : mget M 0 = some (eO 5 fs)) (hf : mget M1 60 = some (eJ 1 f)) :
    WRun dd cdL_dealsWith rwL_dealsWith 5 [.ref 0, .int a, .int b, .ref 60] M 0 (mset M1 60 (eJ 1 (vp_updL f 0 v.toInt64))) := by
  intro P hP
  refine hP _ _ _ _ _ ?_; (conv => whnf)
  rw [ho]; (conv => whnf)
  refine ⟨by decide, Nat.le_of_ble_eq_true rfl, rfl, Or.inl ⟨_, _, hcl, ?_⟩⟩; (conv => whnf)
  rw [hf]; (conv => whnf)
  refine ⟨vi (n := 0) rfl (by decide) (by decide), ?_⟩; (conv => whnf)
  refine hP _ _ _ _ _ ?_; (conv => whnf)
  exact ⟨by decide, rfl, rfl⟩
theorem wt_dealsWith {dd : Nat} {M M1 : Mem} {a b : Int32} {x : Int32} {e : Nat} {fs : List Value} (hcl : Cl dd kX5_dealsWith [.ref 0, .int a, .int b] M (.inr e) M1) (ho : mget M 0 = some (eO 5 fs)) (hc : cdL_dealsWith e = some x) :
    WRun dd cdL_dealsWith rwL_dealsWith 5 [.ref 0, .int a, .int b, .ref 60] M x M1 := by
  intro P hP
  refine hP _ _ _ _ _ ?_; (conv => whnf)
  rw [ho]; (conv => whnf)
  exact ⟨by decide, Nat.le_of_ble_eq_true rfl, rfl, Or.inr ⟨e, hcl, hc⟩⟩
theorem wv_mayBe {dd : Nat} {M M1 : Mem} {a b : Int32} {v : Int32} {w : Int64} {f : Nat → Int64} {fs : List Value} (hcl : Cl dd kX5_mayBe [.ref 0, .int a, .int b] M (.inl (some (.int v))) M1) (ho : mget M 0 = some (eO 5 fs)) (hf : mget M1 60 = some (eJ 1 f)) (hw : (v = 0 → w = 0) ∧ (¬ v = 0 → w = 1)) :
    WRun dd cdL_mayBe rwL_mayBe 5 [.ref 0, .int a, .int b, .ref 60] M 0 (mset M1 60 (eJ 1 (vp_updL f 0 w))) := by
  intro P hP
  refine hP _ _ _ _ _ ?_; (conv => whnf)
  rw [ho]; (conv => whnf)
  refine ⟨by decide, Nat.le_of_ble_eq_true rfl, rfl, Or.inl ⟨_, _, hcl, ?_⟩⟩; (conv => whnf)
  refine ⟨fun z => ?_, fun z => ?_⟩
  · obtain rfl := hw.1 z
    refine hP _ _ _ _ _ ?_; (conv => whnf)
    rw [hf]; (conv => whnf)
    refine ⟨vi (n := 0) rfl (by decide) (by decide), ?_⟩; (conv => whnf)
    refine hP _ _ _ _ _ ?_; (conv => whnf)
    exact ⟨by decide, rfl, rfl⟩
  · obtain rfl := hw.2 z
    (conv => whnf)
    refine hP _ _ _ _ _ ?_; (conv => whnf)
    rw [hf]; (conv => whnf)
    refine ⟨vi (n := 0) rfl (by decide) (by decide), ?_⟩; (conv => whnf)
    refine hP _ _ _ _ _ ?_; (conv => whnf)
    exact ⟨by decide, rfl, rfl⟩
theorem wt_mayBe {dd : Nat} {M M1 : Mem} {a b : Int32} {x : Int32} {e : Nat} {fs : List Value} (hcl : Cl dd kX5_mayBe [.ref 0, .int a, .int b] M (.inr e) M1) (ho : mget M 0 = some (eO 5 fs)) (hc : cdL_mayBe e = some x) :
    WRun dd cdL_mayBe rwL_mayBe 5 [.ref 0, .int a, .int b, .ref 60] M x M1 := by
  intro P hP
  refine hP _ _ _ _ _ ?_; (conv => whnf)
  rw [ho]; (conv => whnf)
  exact ⟨by decide, Nat.le_of_ble_eq_true rfl, rfl, Or.inr ⟨e, hcl, hc⟩⟩
theorem wv_certainPlace {dd : Nat} {M M1 : Mem} {a : Int32} {v : Int32} {f : Nat → Int64} {fs : List Value} (hcl : Cl dd kX5_certainPlace [.ref 0, .int a] M (.inl (some (.int v))) M1) (ho : mget M 0 = some (eO 5 fs)) (hf : mget M1 60 = some (eJ 1 f)) :
    WRun dd cdL_certainPlace rwL_certainPlace 4 [.ref 0, .int a, .ref 60] M 0 (mset M1 60 (eJ 1 (vp_updL f 0 v.toInt64))) := by
  intro P hP
  refine hP _ _ _ _ _ ?_; (conv => whnf)
  rw [ho]; (conv => whnf)
  refine ⟨by decide, Nat.le_of_ble_eq_true rfl, rfl, Or.inl ⟨_, _, hcl, ?_⟩⟩; (conv => whnf)
  rw [hf]; (conv => whnf)
  refine ⟨vi (n := 0) rfl (by decide) (by decide), ?_⟩; (conv => whnf)
  refine hP _ _ _ _ _ ?_; (conv => whnf)
  exact ⟨by decide, rfl, rfl⟩
theorem wt_certainPlace {dd : Nat} {M M1 : Mem} {a : Int32} {x : Int32} {e : Nat} {fs : List Value} (hcl : Cl dd kX5_certainPlace [.ref 0, .int a] M (.inr e) M1) (ho : mget M 0 = some (eO 5 fs)) (hc : cdL_certainPlace e = some x) :
    WRun dd cdL_certainPlace rwL_certainPlace 4 [.ref 0, .int a, .ref 60] M x M1 := by
  intro P hP
  refine hP _ _ _ _ _ ?_; (conv => whnf)
  rw [ho]; (conv => whnf)
  exact ⟨by decide, Nat.le_of_ble_eq_true rfl, rfl, Or.inr ⟨e, hcl, hc⟩⟩
theorem wv_mayBeByRules {dd : Nat} {M M1 : Mem} {a b : Int32} {v : Int32} {w : Int64} {f : Nat → Int64} {fs : List Value} (hcl : Cl dd kX5_mayBeByRules [.ref 0, .int a, .int b] M (.inl (some (.int v))) M1) (ho : mget M 0 = some (eO 5 fs)) (hf : mget M1 60 = some (eJ 1 f)) (hw : (v = 0 → w = 0) ∧ (¬ v = 0 → w = 1)) :
    WRun dd cdL_mayBeByRules rwL_mayBeByRules 5 [.ref 0, .int a, .int b, .ref 60] M 0 (mset M1 60 (eJ 1 (vp_updL f 0 w))) := by
  intro P hP
  refine hP _ _ _ _ _ ?_; (conv => whnf)
  rw [ho]; (conv => whnf)
  refine ⟨by decide, Nat.le_of_ble_eq_true rfl, rfl, Or.inl ⟨_, _, hcl, ?_⟩⟩; (conv => whnf)
  refine ⟨fun z => ?_, fun z => ?_⟩
  · obtain rfl := hw.1 z
    refine hP _ _ _ _ _ ?_; (conv => whnf)
    rw [hf]; (conv => whnf)
    refine ⟨vi (n := 0) rfl (by decide) (by decide), ?_⟩; (conv => whnf)
    refine hP _ _ _ _ _ ?_; (conv => whnf)
    exact ⟨by decide, rfl, rfl⟩
  · obtain rfl := hw.2 z
    (conv => whnf)
    refine hP _ _ _ _ _ ?_; (conv => whnf)
    rw [hf]; (conv => whnf)
    refine ⟨vi (n := 0) rfl (by decide) (by decide), ?_⟩; (conv => whnf)
    refine hP _ _ _ _ _ ?_; (conv => whnf)
    exact ⟨by decide, rfl, rfl⟩
theorem wt_mayBeByRules {dd : Nat} {M M1 : Mem} {a b : Int32} {x : Int32} {e : Nat} {fs : List Value} (hcl : Cl dd kX5_mayBeByRules [.ref 0, .int a, .int b] M (.inr e) M1) (ho : mget M 0 = some (eO 5 fs)) (hc : cdL_mayBeByRules e = some x) :
    WRun dd cdL_mayBeByRules rwL_mayBeByRules 5 [.ref 0, .int a, .int b, .ref 60] M x M1 := by
  intro P hP
  refine hP _ _ _ _ _ ?_; (conv => whnf)
  rw [ho]; (conv => whnf)
  exact ⟨by decide, Nat.le_of_ble_eq_true rfl, rfl, Or.inr ⟨e, hcl, hc⟩⟩
theorem wv_placeByRules {dd : Nat} {M M1 : Mem} {a : Int32} {v : Int32} {f : Nat → Int64} {fs : List Value} (hcl : Cl dd kX5_placeByRules [.ref 0, .int a] M (.inl (some (.int v))) M1) (ho : mget M 0 = some (eO 5 fs)) (hf : mget M1 60 = some (eJ 1 f)) :
    WRun dd cdL_placeByRules rwL_placeByRules 4 [.ref 0, .int a, .ref 60] M 0 (mset M1 60 (eJ 1 (vp_updL f 0 v.toInt64))) := by
  intro P hP
  refine hP _ _ _ _ _ ?_; (conv => whnf)
  rw [ho]; (conv => whnf)
  refine ⟨by decide, Nat.le_of_ble_eq_true rfl, rfl, Or.inl ⟨_, _, hcl, ?_⟩⟩; (conv => whnf)
  rw [hf]; (conv => whnf)
  refine ⟨vi (n := 0) rfl (by decide) (by decide), ?_⟩; (conv => whnf)
  refine hP _ _ _ _ _ ?_; (conv => whnf)
  exact ⟨by decide, rfl, rfl⟩
theorem wt_placeByRules {dd : Nat} {M M1 : Mem} {a : Int32} {x : Int32} {e : Nat} {fs : List Value} (hcl : Cl dd kX5_placeByRules [.ref 0, .int a] M (.inr e) M1) (ho : mget M 0 = some (eO 5 fs)) (hc : cdL_placeByRules e = some x) :
    WRun dd cdL_placeByRules rwL_placeByRules 4 [.ref 0, .int a, .ref 60] M x M1 := by
  intro P hP
  refine hP _ _ _ _ _ ?_; (conv => whnf)
  rw [ho]; (conv => whnf)
  exact ⟨by decide, Nat.le_of_ble_eq_true rfl, rfl, Or.inr ⟨e, hcl, hc⟩⟩
theorem wv_envelopeDeals {dd : Nat} {M M1 : Mem} {a : Int32} {v : Int32} {f : Nat → Int64} {fs : List Value} (hcl : Cl dd kX5_envelopeDeals [.ref 0, .int a] M (.inl (some (.int v))) M1) (ho : mget M 0 = some (eO 5 fs)) (hf : mget M1 60 = some (eJ 1 f)) :
    WRun dd cdL_envelopeDeals rwL_envelopeDeals 4 [.ref 0, .int a, .ref 60] M 0 (mset M1 60 (eJ 1 (vp_updL f 0 v.toInt64))) := by
  intro P hP
  refine hP _ _ _ _ _ ?_; (conv => whnf)
  rw [ho]; (conv => whnf)
  refine ⟨by decide, Nat.le_of_ble_eq_true rfl, rfl, Or.inl ⟨_, _, hcl, ?_⟩⟩; (conv => whnf)
  rw [hf]; (conv => whnf)
  refine ⟨vi (n := 0) rfl (by decide) (by decide), ?_⟩; (conv => whnf)
  refine hP _ _ _ _ _ ?_; (conv => whnf)
  exact ⟨by decide, rfl, rfl⟩
theorem wt_envelopeDeals {dd : Nat} {M M1 : Mem} {a : Int32} {x : Int32} {e : Nat} {fs : List Value} (hcl : Cl dd kX5_envelopeDeals [.ref 0, .int a] M (.inr e) M1) (ho : mget M 0 = some (eO 5 fs)) (hc : cdL_envelopeDeals e = some x) :
    WRun dd cdL_envelopeDeals rwL_envelopeDeals 4 [.ref 0, .int a, .ref 60] M x M1 := by
  intro P hP
  refine hP _ _ _ _ _ ?_; (conv => whnf)
  rw [ho]; (conv => whnf)
  exact ⟨by decide, Nat.le_of_ble_eq_true rfl, rfl, Or.inr ⟨e, hcl, hc⟩⟩
theorem wv_bestAccusation {dd : Nat} {M M1 : Mem} {v : Int32} {f : Nat → Int64} {fs : List Value} (hcl : Cl dd kX5_bestAccusation [.ref 0] M (.inl (some (.int v))) M1) (ho : mget M 0 = some (eO 5 fs)) (hf : mget M1 60 = some (eJ 1 f)) :
    WRun dd cdL_bestAccusation rwL_bestAccusation 3 [.ref 0, .ref 60] M 0 (mset M1 60 (eJ 1 (vp_updL f 0 v.toInt64))) := by
  intro P hP
  refine hP _ _ _ _ _ ?_; (conv => whnf)
  rw [ho]; (conv => whnf)
  refine ⟨by decide, Nat.le_of_ble_eq_true rfl, rfl, Or.inl ⟨_, _, hcl, ?_⟩⟩; (conv => whnf)
  rw [hf]; (conv => whnf)
  refine ⟨vi (n := 0) rfl (by decide) (by decide), ?_⟩; (conv => whnf)
  refine hP _ _ _ _ _ ?_; (conv => whnf)
  exact ⟨by decide, rfl, rfl⟩
theorem wt_bestAccusation {dd : Nat} {M M1 : Mem} {x : Int32} {e : Nat} {fs : List Value} (hcl : Cl dd kX5_bestAccusation [.ref 0] M (.inr e) M1) (ho : mget M 0 = some (eO 5 fs)) (hc : cdL_bestAccusation e = some x) :
    WRun dd cdL_bestAccusation rwL_bestAccusation 3 [.ref 0, .ref 60] M x M1 := by
  intro P hP
  refine hP _ _ _ _ _ ?_; (conv => whnf)
  rw [ho]; (conv => whnf)
  exact ⟨by decide, Nat.le_of_ble_eq_true rfl, rfl, Or.inr ⟨e, hcl, hc⟩⟩
theorem wv_dealsIfPassed {dd : Nat} {M M1 : Mem} {a b : Int32} {v : Int32} {f : Nat → Int64} {fs : List Value} (hcl : Cl dd kX5_dealsIfPassed [.ref 0, .int a, .int b] M (.inl (some (.int v))) M1) (ho : mget M 0 = some (eO 5 fs)) (hf : mget M1 60 = some (eJ 1 f)) :
    WRun dd cdL_dealsIfPassed rwL_dealsIfPassed 5 [.ref 0, .int a, .int b, .ref 60] M 0 (mset M1 60 (eJ 1 (vp_updL f 0 v.toInt64))) := by
  intro P hP
  refine hP _ _ _ _ _ ?_; (conv => whnf)
  rw [ho]; (conv => whnf)
  refine ⟨by decide, Nat.le_of_ble_eq_true rfl, rfl, Or.inl ⟨_, _, hcl, ?_⟩⟩; (conv => whnf)
  rw [hf]; (conv => whnf)
  refine ⟨vi (n := 0) rfl (by decide) (by decide), ?_⟩; (conv => whnf)
  refine hP _ _ _ _ _ ?_; (conv => whnf)
  exact ⟨by decide, rfl, rfl⟩
theorem wt_dealsIfPassed {dd : Nat} {M M1 : Mem} {a b : Int32} {x : Int32} {e : Nat} {fs : List Value} (hcl : Cl dd kX5_dealsIfPassed [.ref 0, .int a, .int b] M (.inr e) M1) (ho : mget M 0 = some (eO 5 fs)) (hc : cdL_dealsIfPassed e = some x) :
    WRun dd cdL_dealsIfPassed rwL_dealsIfPassed 5 [.ref 0, .int a, .int b, .ref 60] M x M1 := by
  intro P hP
  refine hP _ _ _ _ _ ?_; (conv => whnf)
  rw [ho]; (conv => whnf)
  exact ⟨by decide, Nat.le_of_ble_eq_true rfl, rfl, Or.inr ⟨e, hcl, hc⟩⟩
theorem wv_leftBy {dd : Nat} {M M1 : Mem} {a b : Int32} {v : Int32} {f : Nat → Int64} {fs : List Value} (hcl : Cl dd kX5_leftBy [.ref 0, .int a, .int b] M (.inl (some (.int v))) M1) (ho : mget M 0 = some (eO 5 fs)) (hf : mget M1 60 = some (eJ 1 f)) :
    WRun dd cdL_leftBy rwL_leftBy 5 [.ref 0, .int a, .int b, .ref 60] M 0 (mset M1 60 (eJ 1 (vp_updL f 0 v.toInt64))) := by
  intro P hP
  refine hP _ _ _ _ _ ?_; (conv => whnf)
  rw [ho]; (conv => whnf)
  refine ⟨by decide, Nat.le_of_ble_eq_true rfl, rfl, Or.inl ⟨_, _, hcl, ?_⟩⟩; (conv => whnf)
  rw [hf]; (conv => whnf)
  refine ⟨vi (n := 0) rfl (by decide) (by decide), ?_⟩; (conv => whnf)
  refine hP _ _ _ _ _ ?_; (conv => whnf)
  exact ⟨by decide, rfl, rfl⟩
theorem wt_leftBy {dd : Nat} {M M1 : Mem} {a b : Int32} {x : Int32} {e : Nat} {fs : List Value} (hcl : Cl dd kX5_leftBy [.ref 0, .int a, .int b] M (.inr e) M1) (ho : mget M 0 = some (eO 5 fs)) (hc : cdL_leftBy e = some x) :
    WRun dd cdL_leftBy rwL_leftBy 5 [.ref 0, .int a, .int b, .ref 60] M x M1 := by
  intro P hP
  refine hP _ _ _ _ _ ?_; (conv => whnf)
  rw [ho]; (conv => whnf)
  exact ⟨by decide, Nat.le_of_ble_eq_true rfl, rfl, Or.inr ⟨e, hcl, hc⟩⟩
theorem wv_bestQuestion {dd : Nat} {M M1 : Mem} {a : Int32} {v : Int32} {f : Nat → Int64} {fs : List Value} (hcl : Cl dd kX5_bestQuestion [.ref 0, .int a] M (.inl (some (.int v))) M1) (ho : mget M 0 = some (eO 5 fs)) (hf : mget M1 60 = some (eJ 1 f)) :
    WRun dd cdL_bestQuestion rwL_bestQuestion 4 [.ref 0, .int a, .ref 60] M 0 (mset M1 60 (eJ 1 (vp_updL f 0 v.toInt64))) := by
  intro P hP
  refine hP _ _ _ _ _ ?_; (conv => whnf)
  rw [ho]; (conv => whnf)
  refine ⟨by decide, Nat.le_of_ble_eq_true rfl, rfl, Or.inl ⟨_, _, hcl, ?_⟩⟩; (conv => whnf)
  rw [hf]; (conv => whnf)
  refine ⟨vi (n := 0) rfl (by decide) (by decide), ?_⟩; (conv => whnf)
  refine hP _ _ _ _ _ ?_; (conv => whnf)
  exact ⟨by decide, rfl, rfl⟩
theorem wt_bestQuestion {dd : Nat} {M M1 : Mem} {a : Int32} {x : Int32} {e : Nat} {fs : List Value} (hcl : Cl dd kX5_bestQuestion [.ref 0, .int a] M (.inr e) M1) (ho : mget M 0 = some (eO 5 fs)) (hc : cdL_bestQuestion e = some x) :
    WRun dd cdL_bestQuestion rwL_bestQuestion 4 [.ref 0, .int a, .ref 60] M x M1 := by
  intro P hP
  refine hP _ _ _ _ _ ?_; (conv => whnf)
  rw [ho]; (conv => whnf)
  exact ⟨by decide, Nat.le_of_ble_eq_true rfl, rfl, Or.inr ⟨e, hcl, hc⟩⟩
theorem wv_dealsWithout {dd : Nat} {M M1 : Mem} {a : Int32} {v : Int32} {f : Nat → Int64} {fs : List Value} (hcl : Cl dd kX5_dealsWithout [.ref 0, .int a] M (.inl (some (.int v))) M1) (ho : mget M 0 = some (eO 5 fs)) (hf : mget M1 60 = some (eJ 1 f)) :
    WRun dd cdL_dealsWithout rwL_dealsWithout 4 [.ref 0, .int a, .ref 60] M 0 (mset M1 60 (eJ 1 (vp_updL f 0 v.toInt64))) := by
  intro P hP
  refine hP _ _ _ _ _ ?_; (conv => whnf)
  rw [ho]; (conv => whnf)
  refine ⟨by decide, Nat.le_of_ble_eq_true rfl, rfl, Or.inl ⟨_, _, hcl, ?_⟩⟩; (conv => whnf)
  rw [hf]; (conv => whnf)
  refine ⟨vi (n := 0) rfl (by decide) (by decide), ?_⟩; (conv => whnf)
  refine hP _ _ _ _ _ ?_; (conv => whnf)
  exact ⟨by decide, rfl, rfl⟩
theorem wt_dealsWithout {dd : Nat} {M M1 : Mem} {a : Int32} {x : Int32} {e : Nat} {fs : List Value} (hcl : Cl dd kX5_dealsWithout [.ref 0, .int a] M (.inr e) M1) (ho : mget M 0 = some (eO 5 fs)) (hc : cdL_dealsWithout e = some x) :
    WRun dd cdL_dealsWithout rwL_dealsWithout 4 [.ref 0, .int a, .ref 60] M x M1 := by
  intro P hP
  refine hP _ _ _ _ _ ?_; (conv => whnf)
  rw [ho]; (conv => whnf)
  exact ⟨by decide, Nat.le_of_ble_eq_true rfl, rfl, Or.inr ⟨e, hcl, hc⟩⟩
