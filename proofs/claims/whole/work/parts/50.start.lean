/-! PURE, 30: the two states at the start -/
def z0 : Mem := (fun _ _ => 0, fun _ _ => 0)
def zX6 : Mem := z0
def zX2 : Mem := z0
def zX3 : Mem := (fun k => if k = 5 then (upd (upd (upd (upd (fun _ => 0) 3 (itab 0)) 2 (itab 1)) 1 (itab 2)) 0 (itab 3)) else (fun _ => 0), fun _ _ => 0)
def zX7 : Mem := z0
def zX0 : Mem := z0
def zX4 : Mem := z0
def zX1 : Mem := z0
def zX5 : Mem := (fun k => if k = 1 then (fun _ => (-1 : Int32)) else (fun _ => 0), fun _ _ => 0)
def zX9 : Mem := (fun k => if k = 10 then (upd (upd (upd (upd (upd (upd (upd (upd (upd (upd (upd (upd (upd (upd (upd (upd (upd (upd (upd (upd (upd (upd (upd (upd (fun _ => 0) 0 (vp_nar .char (97 : Int32))) 1 (vp_nar .char (110 : Int32))) 2 (vp_nar .char (100 : Int32))) 3 (vp_nar .char (32 : Int32))) 4 (vp_nar .char (110 : Int32))) 5 (vp_nar .char (97 : Int32))) 6 (vp_nar .char (110 : Int32))) 7 (vp_nar .char (100 : Int32))) 8 (vp_nar .char (111 : Int32))) 9 (vp_nar .char (114 : Int32))) 10 (vp_nar .char (32 : Int32))) 11 (vp_nar .char (32 : Int32))) 12 (vp_nar .char (110 : Int32))) 13 (vp_nar .char (111 : Int32))) 14 (vp_nar .char (114 : Int32))) 15 (vp_nar .char (32 : Int32))) 16 (vp_nar .char (120 : Int32))) 17 (vp_nar .char (111 : Int32))) 18 (vp_nar .char (114 : Int32))) 19 (vp_nar .char (32 : Int32))) 20 (vp_nar .char (110 : Int32))) 21 (vp_nar .char (111 : Int32))) 22 (vp_nar .char (116 : Int32))) 23 (vp_nar .char (32 : Int32))) else if k = 21 then (upd (upd (upd (upd (fun _ => 0) 0 (-1 : Int32)) 1 (-1 : Int32)) 2 (-1 : Int32)) 3 (-1 : Int32)) else (fun _ => 0), fun _ _ => 0)
def zX : XS := fun i => ([z0, zX6, zX2, zX3, zX3, zX7, zX0, zX4, zX1, zX3, zX0, zX5, zX5, zX5, zX5] : List Mem).getD i z0
theorem rel0 : Rel zX zX9 := by
  have rows : ∀ m, m < 4 → zX3.1 5 m = itab (3 - m) ∧ zX3.1 6 m = nI 0 := by
    intro m hm
    have m4 : m = 0 ∨ m = 1 ∨ m = 2 ∨ m = 3 := by omega
    rcases m4 with rfl | rfl | rfl | rfl <;> exact ⟨rfl, rfl⟩
  refine ⟨⟨0, fun _ => 0, fun _ => 0, fun _ => 0, fun _ => 0, 0, fun _ => 0, fun _ => 0, 0, fun _ => 0, fun _ => 0, fun _ => 0, fun _ => 0, ⟨by decide, fun g hg => by omega⟩, ⟨rfl, fun g hg => by omega, rows⟩, ⟨rfl, fun g hg => by omega⟩, ⟨by decide, fun i hi => by omega⟩, ⟨rfl, fun i hi => by omega⟩, ⟨rfl, fun i hi => by omega⟩, by decide, trivial, ⟨rfl, fun i hi => by omega⟩, ⟨rfl, fun i hi => by omega⟩⟩, ⟨0, by decide, rfl, rfl, fun i hi => by omega⟩, Or.inl ⟨rfl, rfl⟩, fun k hk => ?_, rows, ?_⟩
  · have k4 : k = 0 ∨ k = 1 ∨ k = 2 ∨ k = 3 := by omega
    rcases k4 with rfl | rfl | rfl | rfl <;> exact ⟨0, by decide, rfl, rfl, Or.inl ⟨rfl, rfl, rfl⟩⟩
  · have w : ∀ i, i < 24 → zX9.1 10 i = nI (wrdL.getD i 0) := by decide +kernel
    exact w
