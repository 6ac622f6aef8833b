/-! Descriptors of many rows, step by step. -/
theorem pd_step {n : Nat} {c : Char} {cs rest r' : List Char} {t : FieldType} {ts : List FieldType} (hc : c ≠ ')') (h1 : fieldTypePrefix 0 (c :: cs) = some (t, rest)) (h2 : parametersPrefix n rest = some (ts, r')) : parametersPrefix (n + 1) (c :: cs) = some (t :: ts, r') := by
  unfold parametersPrefix
  split
  · rename_i h
    exact absurd (List.cons.inj h).1 hc
  · rename_i h _
    cases h
  · rename_i h _
    cases h
    rw [h1]
    change Option.bind (parametersPrefix n rest) _ = _
    rw [h2]
    rfl
theorem pdL_why_5 : parametersPrefix 250 [')', 'I'] = some ([], ['I']) := rfl
theorem pdL_why_4 : parametersPrefix 251 ['I', ')', 'I'] = some ([.int], ['I']) := pd_step (by decide) (by decide +kernel) pdL_why_5
theorem pdL_why_3 : parametersPrefix 252 ['I', 'I', ')', 'I'] = some ([.int, .int], ['I']) := pd_step (by decide) (by decide +kernel) pdL_why_4
theorem pdL_why_2 : parametersPrefix 253 ['[', 'I', 'I', 'I', ')', 'I'] = some ([(.array .int), .int, .int], ['I']) := pd_step (by decide) (by decide +kernel) pdL_why_3
theorem pdL_why_1 : parametersPrefix 254 ['[', 'I', '[', 'I', 'I', 'I', ')', 'I'] = some ([(.array .int), (.array .int), .int, .int], ['I']) := pd_step (by decide) (by decide +kernel) pdL_why_2
theorem pdL_why_0 : parametersPrefix 255 ['[', 'I', '[', 'I', '[', 'I', 'I', 'I', ')', 'I'] = some ([(.array .int), (.array .int), (.array .int), .int, .int], ['I']) := pd_step (by decide) (by decide +kernel) pdL_why_1
theorem pdL_why : (parseMethodDescriptor (jm_y ML_why).desc).map (fun d => d.parameters.length) = some 5 := by
  show (parseMethodDescriptor "([I[I[III)I").map (fun d => d.parameters.length) = some 5
  unfold parseMethodDescriptor
  rw [show "([I[I[III)I".toList = ['(', '[', 'I', '[', 'I', '[', 'I', 'I', 'I', ')', 'I'] from by decide +kernel]
  change Option.map _ (Option.bind (parametersPrefix 255 ['[', 'I', '[', 'I', '[', 'I', 'I', 'I', ')', 'I']) _) = _
  rw [pdL_why_0]
  rfl
theorem pdL_much_5 : parametersPrefix 250 [')', 'I'] = some ([], ['I']) := rfl
theorem pdL_much_4 : parametersPrefix 251 ['I', ')', 'I'] = some ([.int], ['I']) := pd_step (by decide) (by decide +kernel) pdL_much_5
theorem pdL_much_3 : parametersPrefix 252 ['I', 'I', ')', 'I'] = some ([.int, .int], ['I']) := pd_step (by decide) (by decide +kernel) pdL_much_4
theorem pdL_much_2 : parametersPrefix 253 ['[', 'I', 'I', 'I', ')', 'I'] = some ([(.array .int), .int, .int], ['I']) := pd_step (by decide) (by decide +kernel) pdL_much_3
theorem pdL_much_1 : parametersPrefix 254 ['[', 'I', '[', 'I', 'I', 'I', ')', 'I'] = some ([(.array .int), (.array .int), .int, .int], ['I']) := pd_step (by decide) (by decide +kernel) pdL_much_2
theorem pdL_much_0 : parametersPrefix 255 ['[', 'I', '[', 'I', '[', 'I', 'I', 'I', ')', 'I'] = some ([(.array .int), (.array .int), (.array .int), .int, .int], ['I']) := pd_step (by decide) (by decide +kernel) pdL_much_1
theorem pdL_much : (parseMethodDescriptor (jm_y ML_much).desc).map (fun d => d.parameters.length) = some 5 := by
  show (parseMethodDescriptor "([I[I[III)I").map (fun d => d.parameters.length) = some 5
  unfold parseMethodDescriptor
  rw [show "([I[I[III)I".toList = ['(', '[', 'I', '[', 'I', '[', 'I', 'I', 'I', ')', 'I'] from by decide +kernel]
  change Option.map _ (Option.bind (parametersPrefix 255 ['[', 'I', '[', 'I', '[', 'I', 'I', 'I', ')', 'I']) _) = _
  rw [pdL_much_0]
  rfl
theorem pdL_hour_5 : parametersPrefix 250 [')', 'I'] = some ([], ['I']) := rfl
theorem pdL_hour_4 : parametersPrefix 251 ['[', 'I', ')', 'I'] = some ([(.array .int)], ['I']) := pd_step (by decide) (by decide +kernel) pdL_hour_5
theorem pdL_hour_3 : parametersPrefix 252 ['[', 'I', '[', 'I', ')', 'I'] = some ([(.array .int), (.array .int)], ['I']) := pd_step (by decide) (by decide +kernel) pdL_hour_4
theorem pdL_hour_2 : parametersPrefix 253 ['[', 'I', '[', 'I', '[', 'I', ')', 'I'] = some ([(.array .int), (.array .int), (.array .int)], ['I']) := pd_step (by decide) (by decide +kernel) pdL_hour_3
theorem pdL_hour_1 : parametersPrefix 254 ['[', 'I', '[', 'I', '[', 'I', '[', 'I', ')', 'I'] = some ([(.array .int), (.array .int), (.array .int), (.array .int)], ['I']) := pd_step (by decide) (by decide +kernel) pdL_hour_2
theorem pdL_hour_0 : parametersPrefix 255 ['[', 'I', '[', 'I', '[', 'I', '[', 'I', '[', 'I', ')', 'I'] = some ([(.array .int), (.array .int), (.array .int), (.array .int), (.array .int)], ['I']) := pd_step (by decide) (by decide +kernel) pdL_hour_1
theorem pdL_hour : (parseMethodDescriptor (jm_y ML_hour).desc).map (fun d => d.parameters.length) = some 5 := by
  show (parseMethodDescriptor "([I[I[I[I[I)I").map (fun d => d.parameters.length) = some 5
  unfold parseMethodDescriptor
  rw [show "([I[I[I[I[I)I".toList = ['(', '[', 'I', '[', 'I', '[', 'I', '[', 'I', '[', 'I', ')', 'I'] from by decide +kernel]
  change Option.map _ (Option.bind (parametersPrefix 255 ['[', 'I', '[', 'I', '[', 'I', '[', 'I', '[', 'I', ')', 'I']) _) = _
  rw [pdL_hour_0]
  rfl
theorem pdL_areSacks_6 : parametersPrefix 249 [')', 'Z'] = some ([], ['Z']) := rfl
theorem pdL_areSacks_5 : parametersPrefix 250 ['[', 'I', ')', 'Z'] = some ([(.array .int)], ['Z']) := pd_step (by decide) (by decide +kernel) pdL_areSacks_6
theorem pdL_areSacks_4 : parametersPrefix 251 ['[', 'I', '[', 'I', ')', 'Z'] = some ([(.array .int), (.array .int)], ['Z']) := pd_step (by decide) (by decide +kernel) pdL_areSacks_5
theorem pdL_areSacks_3 : parametersPrefix 252 ['[', 'I', '[', 'I', '[', 'I', ')', 'Z'] = some ([(.array .int), (.array .int), (.array .int)], ['Z']) := pd_step (by decide) (by decide +kernel) pdL_areSacks_4
theorem pdL_areSacks_2 : parametersPrefix 253 ['[', 'I', '[', 'I', '[', 'I', '[', 'I', ')', 'Z'] = some ([(.array .int), (.array .int), (.array .int), (.array .int)], ['Z']) := pd_step (by decide) (by decide +kernel) pdL_areSacks_3
theorem pdL_areSacks_1 : parametersPrefix 254 ['[', 'I', '[', 'I', '[', 'I', '[', 'I', '[', 'I', ')', 'Z'] = some ([(.array .int), (.array .int), (.array .int), (.array .int), (.array .int)], ['Z']) := pd_step (by decide) (by decide +kernel) pdL_areSacks_2
theorem pdL_areSacks_0 : parametersPrefix 255 ['L', 'V', 'a', 'n', 'e', 'V', 'o', 't', 'e', 's', ';', '[', 'I', '[', 'I', '[', 'I', '[', 'I', '[', 'I', ')', 'Z'] = some ([(.object "VaneVotes"), (.array .int), (.array .int), (.array .int), (.array .int), (.array .int)], ['Z']) := pd_step (by decide) (by decide +kernel) pdL_areSacks_1
theorem pdL_areSacks : (parseMethodDescriptor (jm_y ML_areSacks).desc).map (fun d => d.parameters.length) = some 6 := by
  show (parseMethodDescriptor "(LVaneVotes;[I[I[I[I[I)Z").map (fun d => d.parameters.length) = some 6
  unfold parseMethodDescriptor
  rw [show "(LVaneVotes;[I[I[I[I[I)Z".toList = ['(', 'L', 'V', 'a', 'n', 'e', 'V', 'o', 't', 'e', 's', ';', '[', 'I', '[', 'I', '[', 'I', '[', 'I', '[', 'I', ')', 'Z'] from by decide +kernel]
  change Option.map _ (Option.bind (parametersPrefix 255 ['L', 'V', 'a', 'n', 'e', 'V', 'o', 't', 'e', 's', ';', '[', 'I', '[', 'I', '[', 'I', '[', 'I', '[', 'I', ')', 'Z']) _) = _
  rw [pdL_areSacks_0]
  rfl
theorem pdL_isAhead_7 : parametersPrefix 248 [')', 'Z'] = some ([], ['Z']) := rfl
theorem pdL_isAhead_6 : parametersPrefix 249 ['[', 'I', ')', 'Z'] = some ([(.array .int)], ['Z']) := pd_step (by decide) (by decide +kernel) pdL_isAhead_7
theorem pdL_isAhead_5 : parametersPrefix 250 ['[', 'I', '[', 'I', ')', 'Z'] = some ([(.array .int), (.array .int)], ['Z']) := pd_step (by decide) (by decide +kernel) pdL_isAhead_6
theorem pdL_isAhead_4 : parametersPrefix 251 ['[', 'I', '[', 'I', '[', 'I', ')', 'Z'] = some ([(.array .int), (.array .int), (.array .int)], ['Z']) := pd_step (by decide) (by decide +kernel) pdL_isAhead_5
theorem pdL_isAhead_3 : parametersPrefix 252 ['[', 'I', '[', 'I', '[', 'I', '[', 'I', ')', 'Z'] = some ([(.array .int), (.array .int), (.array .int), (.array .int)], ['Z']) := pd_step (by decide) (by decide +kernel) pdL_isAhead_4
theorem pdL_isAhead_2 : parametersPrefix 253 ['[', 'I', '[', 'I', '[', 'I', '[', 'I', '[', 'I', ')', 'Z'] = some ([(.array .int), (.array .int), (.array .int), (.array .int), (.array .int)], ['Z']) := pd_step (by decide) (by decide +kernel) pdL_isAhead_3
theorem pdL_isAhead_1 : parametersPrefix 254 ['I', '[', 'I', '[', 'I', '[', 'I', '[', 'I', '[', 'I', ')', 'Z'] = some ([.int, (.array .int), (.array .int), (.array .int), (.array .int), (.array .int)], ['Z']) := pd_step (by decide) (by decide +kernel) pdL_isAhead_2
theorem pdL_isAhead_0 : parametersPrefix 255 ['L', 'V', 'a', 'n', 'e', 'V', 'o', 't', 'e', 's', ';', 'I', '[', 'I', '[', 'I', '[', 'I', '[', 'I', '[', 'I', ')', 'Z'] = some ([(.object "VaneVotes"), .int, (.array .int), (.array .int), (.array .int), (.array .int), (.array .int)], ['Z']) := pd_step (by decide) (by decide +kernel) pdL_isAhead_1
theorem pdL_isAhead : (parseMethodDescriptor (jm_y ML_isAhead).desc).map (fun d => d.parameters.length) = some 7 := by
  show (parseMethodDescriptor "(LVaneVotes;I[I[I[I[I[I)Z").map (fun d => d.parameters.length) = some 7
  unfold parseMethodDescriptor
  rw [show "(LVaneVotes;I[I[I[I[I[I)Z".toList = ['(', 'L', 'V', 'a', 'n', 'e', 'V', 'o', 't', 'e', 's', ';', 'I', '[', 'I', '[', 'I', '[', 'I', '[', 'I', '[', 'I', ')', 'Z'] from by decide +kernel]
  change Option.map _ (Option.bind (parametersPrefix 255 ['L', 'V', 'a', 'n', 'e', 'V', 'o', 't', 'e', 's', ';', 'I', '[', 'I', '[', 'I', '[', 'I', '[', 'I', '[', 'I', ')', 'Z']) _) = _
  rw [pdL_isAhead_0]
  rfl
theorem pdL_act_8 : parametersPrefix 247 [')', 'Z'] = some ([], ['Z']) := rfl
theorem pdL_act_7 : parametersPrefix 248 ['[', 'I', ')', 'Z'] = some ([(.array .int)], ['Z']) := pd_step (by decide) (by decide +kernel) pdL_act_8
theorem pdL_act_6 : parametersPrefix 249 ['[', 'I', '[', 'I', ')', 'Z'] = some ([(.array .int), (.array .int)], ['Z']) := pd_step (by decide) (by decide +kernel) pdL_act_7
theorem pdL_act_5 : parametersPrefix 250 ['[', 'I', '[', 'I', '[', 'I', ')', 'Z'] = some ([(.array .int), (.array .int), (.array .int)], ['Z']) := pd_step (by decide) (by decide +kernel) pdL_act_6
theorem pdL_act_4 : parametersPrefix 251 ['[', 'I', '[', 'I', '[', 'I', '[', 'I', ')', 'Z'] = some ([(.array .int), (.array .int), (.array .int), (.array .int)], ['Z']) := pd_step (by decide) (by decide +kernel) pdL_act_5
theorem pdL_act_3 : parametersPrefix 252 ['[', 'I', '[', 'I', '[', 'I', '[', 'I', '[', 'I', ')', 'Z'] = some ([(.array .int), (.array .int), (.array .int), (.array .int), (.array .int)], ['Z']) := pd_step (by decide) (by decide +kernel) pdL_act_4
theorem pdL_act_2 : parametersPrefix 253 ['I', '[', 'I', '[', 'I', '[', 'I', '[', 'I', '[', 'I', ')', 'Z'] = some ([.int, (.array .int), (.array .int), (.array .int), (.array .int), (.array .int)], ['Z']) := pd_step (by decide) (by decide +kernel) pdL_act_3
theorem pdL_act_1 : parametersPrefix 254 ['I', 'I', '[', 'I', '[', 'I', '[', 'I', '[', 'I', '[', 'I', ')', 'Z'] = some ([.int, .int, (.array .int), (.array .int), (.array .int), (.array .int), (.array .int)], ['Z']) := pd_step (by decide) (by decide +kernel) pdL_act_2
theorem pdL_act_0 : parametersPrefix 255 ['L', 'V', 'a', 'n', 'e', 'V', 'o', 't', 'e', 's', ';', 'I', 'I', '[', 'I', '[', 'I', '[', 'I', '[', 'I', '[', 'I', ')', 'Z'] = some ([(.object "VaneVotes"), .int, .int, (.array .int), (.array .int), (.array .int), (.array .int), (.array .int)], ['Z']) := pd_step (by decide) (by decide +kernel) pdL_act_1
theorem pdL_act : (parseMethodDescriptor (jm_y ML_act).desc).map (fun d => d.parameters.length) = some 8 := by
  show (parseMethodDescriptor "(LVaneVotes;II[I[I[I[I[I)Z").map (fun d => d.parameters.length) = some 8
  unfold parseMethodDescriptor
  rw [show "(LVaneVotes;II[I[I[I[I[I)Z".toList = ['(', 'L', 'V', 'a', 'n', 'e', 'V', 'o', 't', 'e', 's', ';', 'I', 'I', '[', 'I', '[', 'I', '[', 'I', '[', 'I', '[', 'I', ')', 'Z'] from by decide +kernel]
  change Option.map _ (Option.bind (parametersPrefix 255 ['L', 'V', 'a', 'n', 'e', 'V', 'o', 't', 'e', 's', ';', 'I', 'I', '[', 'I', '[', 'I', '[', 'I', '[', 'I', '[', 'I', ')', 'Z']) _) = _
  rw [pdL_act_0]
  rfl
theorem kL_why : j_kS ML_why 5 := ⟨rfl, j_in (List.mem_of_getElem? (i := 385) (by decide +kernel)) rfl, j_in (List.mem_of_getElem? (i := 384) (by decide +kernel)) rfl, j_in (List.mem_of_getElem? (i := 4) (by decide +kernel)) rfl, by decide +kernel, by decide +kernel, pdL_why⟩
theorem kL_much : j_kS ML_much 5 := ⟨rfl, j_in (List.mem_of_getElem? (i := 388) (by decide +kernel)) rfl, j_in (List.mem_of_getElem? (i := 387) (by decide +kernel)) rfl, j_in (List.mem_of_getElem? (i := 4) (by decide +kernel)) rfl, by decide +kernel, by decide +kernel, pdL_much⟩
theorem kL_hour : j_kS ML_hour 5 := ⟨rfl, j_in (List.mem_of_getElem? (i := 439) (by decide +kernel)) rfl, j_in (List.mem_of_getElem? (i := 438) (by decide +kernel)) rfl, j_in (List.mem_of_getElem? (i := 4) (by decide +kernel)) rfl, by decide +kernel, by decide +kernel, pdL_hour⟩
theorem kL_areSacks : j_kS ML_areSacks 6 := ⟨rfl, j_in (List.mem_of_getElem? (i := 427) (by decide +kernel)) rfl, j_in (List.mem_of_getElem? (i := 426) (by decide +kernel)) rfl, j_in (List.mem_of_getElem? (i := 4) (by decide +kernel)) rfl, by decide +kernel, by decide +kernel, pdL_areSacks⟩
theorem kL_isAhead : j_kS ML_isAhead 7 := ⟨rfl, j_in (List.mem_of_getElem? (i := 433) (by decide +kernel)) rfl, j_in (List.mem_of_getElem? (i := 432) (by decide +kernel)) rfl, j_in (List.mem_of_getElem? (i := 4) (by decide +kernel)) rfl, by decide +kernel, by decide +kernel, pdL_isAhead⟩
theorem kL_act : j_kS ML_act 8 := ⟨rfl, j_in (List.mem_of_getElem? (i := 456) rfl) rfl, j_in (List.mem_of_getElem? (i := 455) (by decide +kernel)) rfl, j_in (List.mem_of_getElem? (i := 4) (by decide +kernel)) rfl, by decide +kernel, by decide +kernel, pdL_act⟩
