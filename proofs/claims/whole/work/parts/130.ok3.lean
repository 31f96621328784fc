set_option maxRecDepth 100000 in
theorem am_wt0 : am_wp0.map (fun p => lw_tbl[p]?) = (am_w0.map am_wi).map some := by rfl
set_option maxRecDepth 100000 in
theorem am_wt1 : am_wp1.map (fun p => lw_tbl[p]?) = (am_w1.map am_wi).map some := by rfl
set_option maxRecDepth 100000 in
theorem am_wt2 : am_wp2.map (fun p => lw_tbl[p]?) = (am_w2.map am_wi).map some := by rfl
set_option maxRecDepth 100000 in
theorem am_wt3 : am_wp3.map (fun p => lw_tbl[p]?) = (am_w3.map am_wi).map some := by rfl
set_option maxRecDepth 100000 in
theorem am_wt4 : am_wp4.map (fun p => lw_tbl[p]?) = (am_w4.map am_wi).map some := by rfl
set_option maxRecDepth 100000 in
theorem am_wt5 : am_wp5.map (fun p => lw_tbl[p]?) = (am_w5.map am_wi).map some := by rfl
set_option maxRecDepth 100000 in
theorem am_wt6 : am_wp6.map (fun p => lw_tbl[p]?) = (am_w6.map am_wi).map some := by rfl
set_option maxRecDepth 100000 in
theorem am_wt7 : am_wp7.map (fun p => lw_tbl[p]?) = (am_w7.map am_wi).map some := by rfl
set_option maxRecDepth 100000 in
theorem am_wt8 : am_wp8.map (fun p => lw_tbl[p]?) = (am_w8.map am_wi).map some := by rfl
set_option maxRecDepth 100000 in
theorem am_wt9 : am_wp9.map (fun p => lw_tbl[p]?) = (am_w9.map am_wi).map some := by rfl
set_option maxRecDepth 100000 in
theorem am_wt10 : am_wp10.map (fun p => lw_tbl[p]?) = (am_w10.map am_wi).map some := by rfl
set_option maxRecDepth 100000 in
theorem am_wt11 : am_wp11.map (fun p => lw_tbl[p]?) = (am_w11.map am_wi).map some := by rfl
set_option maxRecDepth 100000 in
theorem am_wt12 : am_wp12.map (fun p => lw_tbl[p]?) = (am_w12.map am_wi).map some := by rfl
set_option maxRecDepth 100000 in
theorem am_wt13 : am_wp13.map (fun p => lw_tbl[p]?) = (am_w13.map am_wi).map some := by rfl
set_option maxRecDepth 100000 in
theorem am_wt14 : am_wp14.map (fun p => lw_tbl[p]?) = (am_w14.map am_wi).map some := by rfl
set_option maxRecDepth 100000 in
theorem am_wt15 : am_wp15.map (fun p => lw_tbl[p]?) = (am_w15.map am_wi).map some := by rfl
set_option maxRecDepth 100000 in
theorem am_wt16 : am_wp16.map (fun p => lw_tbl[p]?) = (am_w16.map am_wi).map some := by rfl
set_option maxRecDepth 100000 in
theorem am_wt17 : am_wp17.map (fun p => lw_tbl[p]?) = (am_w17.map am_wi).map some := by rfl
set_option maxRecDepth 100000 in
theorem am_wt18 : am_wp18.map (fun p => lw_tbl[p]?) = (am_w18.map am_wi).map some := by rfl
set_option maxRecDepth 100000 in
theorem am_wt19 : am_wp19.map (fun p => lw_tbl[p]?) = (am_w19.map am_wi).map some := by rfl
set_option maxRecDepth 100000 in
theorem am_wt20 : am_wp20.map (fun p => lw_tbl[p]?) = (am_w20.map am_wi).map some := by rfl
set_option maxRecDepth 100000 in
theorem am_wt21 : am_wp21.map (fun p => lw_tbl[p]?) = (am_w21.map am_wi).map some := by rfl
set_option maxRecDepth 100000 in
theorem am_wt22 : am_wp22.map (fun p => lw_tbl[p]?) = (am_w22.map am_wi).map some := by rfl
set_option maxRecDepth 100000 in
theorem am_wt23 : am_wp23.map (fun p => lw_tbl[p]?) = (am_w23.map am_wi).map some := by rfl
set_option maxRecDepth 100000 in
theorem am_wt24 : am_wp24.map (fun p => lw_tbl[p]?) = (am_w24.map am_wi).map some := by rfl
set_option maxRecDepth 100000 in
theorem am_wt25 : am_wp25.map (fun p => lw_tbl[p]?) = (am_w25.map am_wi).map some := by rfl
set_option maxRecDepth 100000 in
theorem am_wt26 : am_wp26.map (fun p => lw_tbl[p]?) = (am_w26.map am_wi).map some := by rfl
set_option maxRecDepth 100000 in
theorem am_wt27 : am_wp27.map (fun p => lw_tbl[p]?) = (am_w27.map am_wi).map some := by rfl
set_option maxRecDepth 100000 in
theorem am_wt28 : am_wp28.map (fun p => lw_tbl[p]?) = (am_w28.map am_wi).map some := by rfl
set_option maxRecDepth 100000 in
theorem am_wt29 : am_wp29.map (fun p => lw_tbl[p]?) = (am_w29.map am_wi).map some := by rfl
set_option maxRecDepth 100000 in
theorem am_wt30 : am_wp30.map (fun p => lw_tbl[p]?) = (am_w30.map am_wi).map some := by rfl
set_option maxRecDepth 100000 in
theorem am_wt31 : am_wp31.map (fun p => lw_tbl[p]?) = (am_w31.map am_wi).map some := by rfl
set_option maxRecDepth 100000 in
theorem am_wt32 : am_wp32.map (fun p => lw_tbl[p]?) = (am_w32.map am_wi).map some := by rfl
set_option maxRecDepth 100000 in
theorem am_wt33 : am_wp33.map (fun p => lw_tbl[p]?) = (am_w33.map am_wi).map some := by rfl
set_option maxRecDepth 100000 in
theorem am_wt34 : am_wp34.map (fun p => lw_tbl[p]?) = (am_w34.map am_wi).map some := by rfl
set_option maxRecDepth 100000 in
theorem am_wt35 : am_wp35.map (fun p => lw_tbl[p]?) = (am_w35.map am_wi).map some := by rfl
theorem am_wt {ps : List Nat} {r : List Cond} (h : ps.map (fun p => lw_tbl[p]?) = r.map some) : ∀ w ∈ r, w ∈ lw_tbl := by
  intro w hw
  have h1 : some w ∈ r.map some := List.mem_map.mpr ⟨w, hw, rfl⟩
  rw [← h] at h1
  obtain ⟨p, -, hp⟩ := List.mem_map.mp h1
  exact List.mem_of_getElem? hp
theorem am_ws_tbl : ∀ w ∈ am_ws, w ∈ lw_tbl := by
  intro w hw
  obtain ⟨q, hq, rfl⟩ := List.mem_map.mp hw
  obtain ⟨r, hr, hq⟩ := List.mem_flatten.mp hq
  simp only [am_wc, List.mem_cons, List.not_mem_nil, or_false] at hr
  rcases hr with rfl | rfl | rfl | rfl | rfl | rfl | rfl | rfl | rfl | rfl | rfl | rfl | rfl | rfl | rfl | rfl | rfl | rfl | rfl | rfl | rfl | rfl | rfl | rfl | rfl | rfl | rfl | rfl | rfl | rfl | rfl | rfl | rfl | rfl | rfl | rfl
  · exact am_wt am_wt0 _ (List.mem_map.mpr ⟨q, hq, rfl⟩)
  · exact am_wt am_wt1 _ (List.mem_map.mpr ⟨q, hq, rfl⟩)
  · exact am_wt am_wt2 _ (List.mem_map.mpr ⟨q, hq, rfl⟩)
  · exact am_wt am_wt3 _ (List.mem_map.mpr ⟨q, hq, rfl⟩)
  · exact am_wt am_wt4 _ (List.mem_map.mpr ⟨q, hq, rfl⟩)
  · exact am_wt am_wt5 _ (List.mem_map.mpr ⟨q, hq, rfl⟩)
  · exact am_wt am_wt6 _ (List.mem_map.mpr ⟨q, hq, rfl⟩)
  · exact am_wt am_wt7 _ (List.mem_map.mpr ⟨q, hq, rfl⟩)
  · exact am_wt am_wt8 _ (List.mem_map.mpr ⟨q, hq, rfl⟩)
  · exact am_wt am_wt9 _ (List.mem_map.mpr ⟨q, hq, rfl⟩)
  · exact am_wt am_wt10 _ (List.mem_map.mpr ⟨q, hq, rfl⟩)
  · exact am_wt am_wt11 _ (List.mem_map.mpr ⟨q, hq, rfl⟩)
  · exact am_wt am_wt12 _ (List.mem_map.mpr ⟨q, hq, rfl⟩)
  · exact am_wt am_wt13 _ (List.mem_map.mpr ⟨q, hq, rfl⟩)
  · exact am_wt am_wt14 _ (List.mem_map.mpr ⟨q, hq, rfl⟩)
  · exact am_wt am_wt15 _ (List.mem_map.mpr ⟨q, hq, rfl⟩)
  · exact am_wt am_wt16 _ (List.mem_map.mpr ⟨q, hq, rfl⟩)
  · exact am_wt am_wt17 _ (List.mem_map.mpr ⟨q, hq, rfl⟩)
  · exact am_wt am_wt18 _ (List.mem_map.mpr ⟨q, hq, rfl⟩)
  · exact am_wt am_wt19 _ (List.mem_map.mpr ⟨q, hq, rfl⟩)
  · exact am_wt am_wt20 _ (List.mem_map.mpr ⟨q, hq, rfl⟩)
  · exact am_wt am_wt21 _ (List.mem_map.mpr ⟨q, hq, rfl⟩)
  · exact am_wt am_wt22 _ (List.mem_map.mpr ⟨q, hq, rfl⟩)
  · exact am_wt am_wt23 _ (List.mem_map.mpr ⟨q, hq, rfl⟩)
  · exact am_wt am_wt24 _ (List.mem_map.mpr ⟨q, hq, rfl⟩)
  · exact am_wt am_wt25 _ (List.mem_map.mpr ⟨q, hq, rfl⟩)
  · exact am_wt am_wt26 _ (List.mem_map.mpr ⟨q, hq, rfl⟩)
  · exact am_wt am_wt27 _ (List.mem_map.mpr ⟨q, hq, rfl⟩)
  · exact am_wt am_wt28 _ (List.mem_map.mpr ⟨q, hq, rfl⟩)
  · exact am_wt am_wt29 _ (List.mem_map.mpr ⟨q, hq, rfl⟩)
  · exact am_wt am_wt30 _ (List.mem_map.mpr ⟨q, hq, rfl⟩)
  · exact am_wt am_wt31 _ (List.mem_map.mpr ⟨q, hq, rfl⟩)
  · exact am_wt am_wt32 _ (List.mem_map.mpr ⟨q, hq, rfl⟩)
  · exact am_wt am_wt33 _ (List.mem_map.mpr ⟨q, hq, rfl⟩)
  · exact am_wt am_wt34 _ (List.mem_map.mpr ⟨q, hq, rfl⟩)
  · exact am_wt am_wt35 _ (List.mem_map.mpr ⟨q, hq, rfl⟩)
