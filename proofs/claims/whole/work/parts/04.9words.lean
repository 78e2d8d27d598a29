theorem gm_lenP : gm_PP.length = gm_PT.length := by decide +kernel
theorem gm_ckI : ((gm_cl.zip gm_CP).all fun x => decide (lw_tbl[x.2.1]? = some (.instantiable x.1.1 x.1.2.2)) && decide (lw_tbl[x.2.2]? = some (.initialized x.1.1))) = true := by decide +kernel
theorem gm_wArr : lw_tbl[133]? = some (.arrayClass .int) ∧ lw_tbl[170]? = some (.arrayClass .long) ∧ lw_tbl[901]? = some (.arrayClass .boolean) ∧ lw_tbl[273]? = some (.arrayOver (.object "GridMender$Laying")) ∧ lw_tbl[275]? = some (.arrayOver (.object "GridMender$Sheet")) := by decide +kernel
theorem gm_wSys : lw_tbl[485]? = some (.native arraycopyName) ∧ lw_tbl[484]? = some (.static arraycopyName) ∧ lw_tbl[74]? = some (.initialized "java/lang/System") := by decide +kernel
theorem gm_wObj : lw_tbl[82]? = some (.instanceMethod objectInit) ∧ lw_tbl[83]? = some (.code objectInit ⟨#[0xb1]⟩ 1 none) := by decide +kernel
theorem gm_wMath : (lw_tbl[332]? = some (.static Lib.Math.min.name) ∧ lw_tbl[333]? = some (.code Lib.Math.min.name Lib.Math.min.code 2 (some .int))) ∧ (lw_tbl[642]? = some (.static Lib.Math.abs.name) ∧ lw_tbl[643]? = some (.code Lib.Math.abs.name Lib.Math.abs.code 1 (some .int))) ∧ lw_tbl[71]? = some (.initialized "java/lang/Math") := by decide +kernel
theorem gm_in0 : ∀ w ∈ u_ws RX0 TX0 7, w ∈ lw_tbl := by
  have e : u_ws RX0 TX0 7 = [118, 120, 122, 124, 126, 128, 130].filterMap (fun i => lw_tbl[i]?) := by decide +kernel
  intro w hw
  rw [e] at hw
  obtain ⟨i, -, hi⟩ := List.mem_filterMap.mp hw
  exact List.mem_of_getElem? hi
theorem gm_in1 : ∀ w ∈ u_ws RX1 TX1 9, w ∈ lw_tbl := by
  have e : u_ws RX1 TX1 9 = [229, 231, 233, 235, 237, 239, 241, 243, 245].filterMap (fun i => lw_tbl[i]?) := by decide +kernel
  intro w hw
  rw [e] at hw
  obtain ⟨i, -, hi⟩ := List.mem_filterMap.mp hw
  exact List.mem_of_getElem? hi
theorem gm_in2 : ∀ w ∈ u_ws RX2 TX2 5, w ∈ lw_tbl := by
  have e : u_ws RX2 TX2 5 = [262, 264, 266, 268, 270].filterMap (fun i => lw_tbl[i]?) := by decide +kernel
  intro w hw
  rw [e] at hw
  obtain ⟨i, -, hi⟩ := List.mem_filterMap.mp hw
  exact List.mem_of_getElem? hi
theorem gm_in3 : ∀ w ∈ u_ws RX3 TX3 14, w ∈ lw_tbl := by
  have e : u_ws RX3 TX3 14 = [185, 187, 189, 191, 193, 195, 197, 199, 201, 203, 205, 207, 209, 211].filterMap (fun i => lw_tbl[i]?) := by decide +kernel
  intro w hw
  rw [e] at hw
  obtain ⟨i, -, hi⟩ := List.mem_filterMap.mp hw
  exact List.mem_of_getElem? hi
theorem gm_in4 : ∀ w ∈ u_ws RX4 TX4 7, w ∈ lw_tbl := by
  have e : u_ws RX4 TX4 7 = [155, 157, 159, 161, 163, 165, 167].filterMap (fun i => lw_tbl[i]?) := by decide +kernel
  intro w hw
  rw [e] at hw
  obtain ⟨i, -, hi⟩ := List.mem_filterMap.mp hw
  exact List.mem_of_getElem? hi
theorem gm_in5 : ∀ w ∈ u_ws RX5 TX5 4, w ∈ lw_tbl := by
  have e : u_ws RX5 TX5 4 = [289, 291, 293, 295].filterMap (fun i => lw_tbl[i]?) := by decide +kernel
  intro w hw
  rw [e] at hw
  obtain ⟨i, -, hi⟩ := List.mem_filterMap.mp hw
  exact List.mem_of_getElem? hi
theorem gm_in6 : ∀ w ∈ u_ws RX6 TX6 8, w ∈ lw_tbl := by
  have e : u_ws RX6 TX6 8 = [306, 308, 310, 312, 314, 316, 318, 320].filterMap (fun i => lw_tbl[i]?) := by decide +kernel
  intro w hw
  rw [e] at hw
  obtain ⟨i, -, hi⟩ := List.mem_filterMap.mp hw
  exact List.mem_of_getElem? hi
theorem gm_in7 : ∀ w ∈ u_ws RX7 TX7 33, w ∈ lw_tbl := by
  have e : u_ws RX7 TX7 33 = [834, 836, 838, 840, 842, 844, 846, 848, 850, 852, 854, 856, 858, 860, 862, 864, 866, 868, 870, 872, 874, 876, 878, 880, 882, 884, 886, 888, 890, 892, 894, 896, 898].filterMap (fun i => lw_tbl[i]?) := by decide +kernel
  intro w hw
  rw [e] at hw
  obtain ⟨i, -, hi⟩ := List.mem_filterMap.mp hw
  exact List.mem_of_getElem? hi
