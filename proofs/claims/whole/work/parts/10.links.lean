theorem inW1 {w : Cond} {i : Nat} (h : tables_1_1[i]? = some w) (hg : goodWord w = true) : w ∈ Wg := List.mem_filter.mpr ⟨List.mem_append_right _ (List.mem_append_left _ (List.mem_of_getElem? h)), hg⟩
theorem inW2 {w : Cond} {i : Nat} (h : tables_1_2[i]? = some w) (hg : goodWord w = true) : w ∈ Wg := List.mem_filter.mpr ⟨List.mem_append_right _ (List.mem_append_right _ (List.mem_append_left _ (List.mem_of_getElem? h))), hg⟩
theorem inW3 {w : Cond} {i : Nat} (h : tables_1_3[i]? = some w) (hg : goodWord w = true) : w ∈ Wg := List.mem_filter.mpr ⟨List.mem_append_right _ (List.mem_append_right _ (List.mem_append_right _ (List.mem_append_left _ (List.mem_of_getElem? h)))), hg⟩
theorem inW4 {w : Cond} {i : Nat} (h : tables_1_4[i]? = some w) (hg : goodWord w = true) : w ∈ Wg := List.mem_filter.mpr ⟨List.mem_append_right _ (List.mem_append_right _ (List.mem_append_right _ (List.mem_append_right _ (List.mem_append_left _ (List.mem_of_getElem? h))))), hg⟩
theorem inW5 {w : Cond} {i : Nat} (h : tables_1_5[i]? = some w) (hg : goodWord w = true) : w ∈ Wg := List.mem_filter.mpr ⟨List.mem_append_right _ (List.mem_append_right _ (List.mem_append_right _ (List.mem_append_right _ (List.mem_append_right _ (List.mem_append_left _ (List.mem_of_getElem? h)))))), hg⟩
theorem inW6 {w : Cond} {i : Nat} (h : tables_1_6[i]? = some w) (hg : goodWord w = true) : w ∈ Wg := List.mem_filter.mpr ⟨List.mem_append_right _ (List.mem_append_right _ (List.mem_append_right _ (List.mem_append_right _ (List.mem_append_right _ (List.mem_append_right _ (List.mem_append_left _ (List.mem_of_getElem? h))))))), hg⟩
theorem inW7 {w : Cond} {i : Nat} (h : tables_1_7[i]? = some w) (hg : goodWord w = true) : w ∈ Wg := List.mem_filter.mpr ⟨List.mem_append_right _ (List.mem_append_right _ (List.mem_append_right _ (List.mem_append_right _ (List.mem_append_right _ (List.mem_append_right _ (List.mem_append_right _ (List.mem_append_left _ (List.mem_of_getElem? h)))))))), hg⟩
theorem inW8 {w : Cond} {i : Nat} (h : tables_1_8[i]? = some w) (hg : goodWord w = true) : w ∈ Wg := List.mem_filter.mpr ⟨List.mem_append_right _ (List.mem_append_right _ (List.mem_append_right _ (List.mem_append_right _ (List.mem_append_right _ (List.mem_append_right _ (List.mem_append_right _ (List.mem_append_right _ (List.mem_of_getElem? h)))))))), hg⟩
theorem inWs {y : MethodName} {n i : Nat} (h : lw_privs[i]? = some (y, n)) : Cond.selects y.cls y y ∈ Wg := List.mem_filter.mpr ⟨List.mem_append_left _ (List.mem_map.mpr ⟨(y, n), List.mem_of_getElem? h, rfl⟩), rfl⟩
def mX7_get : MD := (yX7_get, cX7_get, 2, (some .int))
theorem mdX7_get : Md mX7_get := ⟨inW3 (i := 65) rfl rfl, inW1 (i := 18) (by decide +kernel) rfl, ⟨by decide +kernel, by decide +kernel⟩, by decide, by decide +kernel⟩
theorem npX7_get : (parseMethodDescriptor mX7_get.1.desc).map (fun d => d.parameters.length) = some 2 := by decide +kernel
theorem smX7_get : Cond.static yX7_get ∈ Wg := inW3 (i := 64) (by decide +kernel) rfl
def mX7_get_ : MD := (yX7_get_, cX7_get_, 2, (some .long))
theorem mdX7_get_ : Md mX7_get_ := ⟨inW4 (i := 127) rfl rfl, inW1 (i := 18) (by decide +kernel) rfl, ⟨by decide +kernel, by decide +kernel⟩, by decide, by decide +kernel⟩
theorem npX7_get_ : (parseMethodDescriptor mX7_get_.1.desc).map (fun d => d.parameters.length) = some 2 := by decide +kernel
theorem smX7_get_ : Cond.static yX7_get_ ∈ Wg := inW4 (i := 126) (by decide +kernel) rfl
def mX7_get__ : MD := (yX7_get__, cX7_get__, 2, (some .boolean))
theorem mdX7_get__ : Md mX7_get__ := ⟨inW4 (i := 206) rfl rfl, inW1 (i := 18) (by decide +kernel) rfl, ⟨by decide +kernel, by decide +kernel⟩, by decide, by decide +kernel⟩
theorem npX7_get__ : (parseMethodDescriptor mX7_get__.1.desc).map (fun d => d.parameters.length) = some 2 := by decide +kernel
theorem smX7_get__ : Cond.static yX7_get__ ∈ Wg := inW4 (i := 205) (by decide +kernel) rfl
def mX7_put : MD := (yX7_put, cX7_put, 3, none)
theorem mdX7_put : Md mX7_put := ⟨inW3 (i := 57) rfl rfl, inW1 (i := 18) (by decide +kernel) rfl, ⟨by decide +kernel, by decide +kernel⟩, by decide, by decide +kernel⟩
theorem npX7_put : (parseMethodDescriptor mX7_put.1.desc).map (fun d => d.parameters.length) = some 3 := by decide +kernel
theorem smX7_put : Cond.static yX7_put ∈ Wg := inW3 (i := 56) (by decide +kernel) rfl
def mX7_put_ : MD := (yX7_put_, cX7_put_, 4, none)
theorem mdX7_put_ : Md mX7_put_ := ⟨inW4 (i := 216) rfl rfl, inW1 (i := 18) (by decide +kernel) rfl, ⟨by decide +kernel, by decide +kernel⟩, by decide, by decide +kernel⟩
theorem npX7_put_ : (parseMethodDescriptor mX7_put_.1.desc).map (fun d => d.parameters.length) = some 3 := by decide +kernel
theorem smX7_put_ : Cond.static yX7_put_ ∈ Wg := inW4 (i := 215) (by decide +kernel) rfl
def mX7_put__ : MD := (yX7_put__, cX7_put__, 3, none)
theorem mdX7_put__ : Md mX7_put__ := ⟨inW4 (i := 209) rfl rfl, inW1 (i := 18) (by decide +kernel) rfl, ⟨by decide +kernel, by decide +kernel⟩, by decide, by decide +kernel⟩
theorem npX7_put__ : (parseMethodDescriptor mX7_put__.1.desc).map (fun d => d.parameters.length) = some 3 := by decide +kernel
theorem smX7_put__ : Cond.static yX7_put__ ∈ Wg := inW4 (i := 208) (by decide +kernel) rfl
def mX7_cut : MD := (yX7_cut, cX7_cut, 2, (some .int))
theorem mdX7_cut : Md mX7_cut := ⟨inW3 (i := 185) rfl rfl, inW1 (i := 18) (by decide +kernel) rfl, ⟨by decide +kernel, by decide +kernel⟩, by decide, by decide +kernel⟩
theorem npX7_cut : (parseMethodDescriptor mX7_cut.1.desc).map (fun d => d.parameters.length) = some 2 := by decide +kernel
theorem smX7_cut : Cond.static yX7_cut ∈ Wg := inW3 (i := 184) (by decide +kernel) rfl
def mX7_quotient : MD := (yX7_quotient, cX7_quotient, 4, (some .long))
theorem mdX7_quotient : Md mX7_quotient := ⟨inW3 (i := 157) rfl rfl, inW1 (i := 18) (by decide +kernel) rfl, ⟨by decide +kernel, by decide +kernel⟩, by decide, by decide +kernel⟩
theorem npX7_quotient : (parseMethodDescriptor mX7_quotient.1.desc).map (fun d => d.parameters.length) = some 2 := by decide +kernel
theorem smX7_quotient : Cond.static yX7_quotient ∈ Wg := inW3 (i := 156) (by decide +kernel) rfl
def mX7_lowest : MD := (yX7_lowest, cX7_lowest, 5, (some .long))
theorem mdX7_lowest : Md mX7_lowest := ⟨inW4 (i := 155) rfl rfl, inW1 (i := 18) (by decide +kernel) rfl, ⟨by decide +kernel, by decide +kernel⟩, by decide, by decide +kernel⟩
theorem npX7_lowest : (parseMethodDescriptor mX7_lowest.1.desc).map (fun d => d.parameters.length) = some 3 := by decide +kernel
theorem smX7_lowest : Cond.static yX7_lowest ∈ Wg := inW4 (i := 154) (by decide +kernel) rfl
def mX7_divisor : MD := (yX7_divisor, cX7_divisor, 11, (some .long))
theorem mdX7_divisor : Md mX7_divisor := ⟨inW4 (i := 159) rfl rfl, inW1 (i := 18) (by decide +kernel) rfl, ⟨by decide +kernel, by decide +kernel⟩, by decide, by decide +kernel⟩
theorem npX7_divisor : (parseMethodDescriptor mX7_divisor.1.desc).map (fun d => d.parameters.length) = some 2 := by decide +kernel
theorem smX7_divisor : Cond.static yX7_divisor ∈ Wg := inW4 (i := 158) (by decide +kernel) rfl
def mX7_bitsOfDouble : MD := (yX7_bitsOfDouble, cX7_bitsOfDouble, 7, (some .long))
theorem mdX7_bitsOfDouble : Md mX7_bitsOfDouble := ⟨inW5 (i := 51) rfl rfl, inW1 (i := 18) (by decide +kernel) rfl, ⟨by decide +kernel, by decide +kernel⟩, by decide, by decide +kernel⟩
theorem npX7_bitsOfDouble : (parseMethodDescriptor mX7_bitsOfDouble.1.desc).map (fun d => d.parameters.length) = some 1 := by decide +kernel
theorem smX7_bitsOfDouble : Cond.static yX7_bitsOfDouble ∈ Wg := inW5 (i := 50) (by decide +kernel) rfl
def mX7_bitsOfFloat : MD := (yX7_bitsOfFloat, cX7_bitsOfFloat, 4, (some .int))
theorem mdX7_bitsOfFloat : Md mX7_bitsOfFloat := ⟨inW5 (i := 65) rfl rfl, inW1 (i := 18) (by decide +kernel) rfl, ⟨by decide +kernel, by decide +kernel⟩, by decide, by decide +kernel⟩
theorem npX7_bitsOfFloat : (parseMethodDescriptor mX7_bitsOfFloat.1.desc).map (fun d => d.parameters.length) = some 1 := by decide +kernel
theorem smX7_bitsOfFloat : Cond.static yX7_bitsOfFloat ∈ Wg := inW5 (i := 64) (by decide +kernel) rfl
def mX0_init : MD := (yX0_init, cX0_init, 1, none)
theorem mdX0_init : Md mX0_init := ⟨inW1 (i := 152) rfl rfl, inW1 (i := 5) (by decide +kernel) rfl, ⟨by decide +kernel, by decide +kernel⟩, by decide, by decide +kernel⟩
theorem npX0_init : (parseMethodDescriptor mX0_init.1.desc).map (fun d => d.parameters.length) = some 0 := by decide +kernel
theorem imX0_init : Cond.instanceMethod yX0_init ∈ Wg := inW1 (i := 151) (by decide +kernel) rfl
def mX0_start : MD := (yX0_start, cX0_start, 2, none)
theorem mdX0_start : Md mX0_start := ⟨inW6 (i := 64) rfl rfl, inW1 (i := 5) (by decide +kernel) rfl, ⟨by decide +kernel, by decide +kernel⟩, by decide, by decide +kernel⟩
theorem npX0_start : (parseMethodDescriptor mX0_start.1.desc).map (fun d => d.parameters.length) = some 1 := by decide +kernel
theorem imX0_start : Cond.instanceMethod yX0_start ∈ Wg := inW6 (i := 62) (by decide +kernel) rfl
theorem seX0_start : Cond.selects yX0_start.cls yX0_start yX0_start ∈ Wg := inW6 (i := 63) (by decide +kernel) rfl
def mX0_draw : MD := (yX0_draw, cX0_draw, 2, (some .int))
theorem mdX0_draw : Md mX0_draw := ⟨inW6 (i := 72) rfl rfl, inW1 (i := 5) (by decide +kernel) rfl, ⟨by decide +kernel, by decide +kernel⟩, by decide, by decide +kernel⟩
theorem npX0_draw : (parseMethodDescriptor mX0_draw.1.desc).map (fun d => d.parameters.length) = some 1 := by decide +kernel
theorem imX0_draw : Cond.instanceMethod yX0_draw ∈ Wg := inW6 (i := 70) (by decide +kernel) rfl
theorem seX0_draw : Cond.selects yX0_draw.cls yX0_draw yX0_draw ∈ Wg := inW6 (i := 71) (by decide +kernel) rfl
def mX0_drawOther : MD := (yX0_drawOther, cX0_drawOther, 4, (some .int))
theorem mdX0_drawOther : Md mX0_drawOther := ⟨inW6 (i := 80) rfl rfl, inW1 (i := 5) (by decide +kernel) rfl, ⟨by decide +kernel, by decide +kernel⟩, by decide, by decide +kernel⟩
theorem npX0_drawOther : (parseMethodDescriptor mX0_drawOther.1.desc).map (fun d => d.parameters.length) = some 2 := by decide +kernel
theorem imX0_drawOther : Cond.instanceMethod yX0_drawOther ∈ Wg := inW6 (i := 78) (by decide +kernel) rfl
theorem seX0_drawOther : Cond.selects yX0_drawOther.cls yX0_drawOther yX0_drawOther ∈ Wg := inW6 (i := 79) (by decide +kernel) rfl
def mX1_init : MD := (yX1_init, cX1_init, 1, none)
theorem mdX1_init : Md mX1_init := ⟨inW1 (i := 193) rfl rfl, inW1 (i := 7) (by decide +kernel) rfl, ⟨by decide +kernel, by decide +kernel⟩, by decide, by decide +kernel⟩
theorem npX1_init : (parseMethodDescriptor mX1_init.1.desc).map (fun d => d.parameters.length) = some 0 := by decide +kernel
theorem imX1_init : Cond.instanceMethod yX1_init ∈ Wg := inW1 (i := 192) (by decide +kernel) rfl
def mX1_make : MD := (yX1_make, cX1_make, 3, none)
theorem mdX1_make : Md mX1_make := ⟨inW3 (i := 114) rfl rfl, inW1 (i := 7) (by decide +kernel) rfl, ⟨by decide +kernel, by decide +kernel⟩, by decide, by decide +kernel⟩
theorem npX1_make : (parseMethodDescriptor mX1_make.1.desc).map (fun d => d.parameters.length) = some 1 := by decide +kernel
theorem imX1_make : Cond.instanceMethod yX1_make ∈ Wg := inW3 (i := 112) (by decide +kernel) rfl
theorem seX1_make : Cond.selects yX1_make.cls yX1_make yX1_make ∈ Wg := inW3 (i := 113) (by decide +kernel) rfl
def mX1_linkLevel : MD := (yX1_linkLevel, cX1_linkLevel, 4, none)
theorem mdX1_linkLevel : Md mX1_linkLevel := ⟨inW3 (i := 189) rfl rfl, inW1 (i := 7) (by decide +kernel) rfl, ⟨by decide +kernel, by decide +kernel⟩, by decide, by decide +kernel⟩
theorem npX1_linkLevel : (parseMethodDescriptor mX1_linkLevel.1.desc).map (fun d => d.parameters.length) = some 1 := by decide +kernel
theorem imX1_linkLevel : Cond.instanceMethod yX1_linkLevel ∈ Wg := inW3 (i := 188) (by decide +kernel) rfl
theorem seX1_linkLevel : Cond.selects yX1_linkLevel.cls yX1_linkLevel yX1_linkLevel ∈ Wg := inWs (y := yX1_linkLevel) (n := 15) (i := 18) (by decide +kernel)
def mX1_linkNode : MD := (yX1_linkNode, cX1_linkNode, 7, none)
theorem mdX1_linkNode : Md mX1_linkNode := ⟨inW3 (i := 201) rfl rfl, inW1 (i := 7) (by decide +kernel) rfl, ⟨by decide +kernel, by decide +kernel⟩, by decide, by decide +kernel⟩
theorem npX1_linkNode : (parseMethodDescriptor mX1_linkNode.1.desc).map (fun d => d.parameters.length) = some 3 := by decide +kernel
theorem imX1_linkNode : Cond.instanceMethod yX1_linkNode ∈ Wg := inW3 (i := 200) (by decide +kernel) rfl
theorem seX1_linkNode : Cond.selects yX1_linkNode.cls yX1_linkNode yX1_linkNode ∈ Wg := inWs (y := yX1_linkNode) (n := 15) (i := 20) (by decide +kernel)
def mX1_link : MD := (yX1_link, cX1_link, 4, none)
theorem mdX1_link : Md mX1_link := ⟨inW3 (i := 212) rfl rfl, inW1 (i := 7) (by decide +kernel) rfl, ⟨by decide +kernel, by decide +kernel⟩, by decide, by decide +kernel⟩
theorem npX1_link : (parseMethodDescriptor mX1_link.1.desc).map (fun d => d.parameters.length) = some 3 := by decide +kernel
theorem imX1_link : Cond.instanceMethod yX1_link ∈ Wg := inW3 (i := 211) (by decide +kernel) rfl
theorem seX1_link : Cond.selects yX1_link.cls yX1_link yX1_link ∈ Wg := inWs (y := yX1_link) (n := 15) (i := 21) (by decide +kernel)
def mX1_addNode : MD := (yX1_addNode, cX1_addNode, 4, (some .int))
theorem mdX1_addNode : Md mX1_addNode := ⟨inW3 (i := 182) rfl rfl, inW1 (i := 7) (by decide +kernel) rfl, ⟨by decide +kernel, by decide +kernel⟩, by decide, by decide +kernel⟩
theorem npX1_addNode : (parseMethodDescriptor mX1_addNode.1.desc).map (fun d => d.parameters.length) = some 2 := by decide +kernel
theorem imX1_addNode : Cond.instanceMethod yX1_addNode ∈ Wg := inW3 (i := 181) (by decide +kernel) rfl
theorem seX1_addNode : Cond.selects yX1_addNode.cls yX1_addNode yX1_addNode ∈ Wg := inWs (y := yX1_addNode) (n := 15) (i := 17) (by decide +kernel)
def mX1_sumAhead : MD := (yX1_sumAhead, cX1_sumAhead, 9, none)
theorem mdX1_sumAhead : Md mX1_sumAhead := ⟨inW3 (i := 216) rfl rfl, inW1 (i := 7) (by decide +kernel) rfl, ⟨by decide +kernel, by decide +kernel⟩, by decide, by decide +kernel⟩
theorem npX1_sumAhead : (parseMethodDescriptor mX1_sumAhead.1.desc).map (fun d => d.parameters.length) = some 0 := by decide +kernel
theorem imX1_sumAhead : Cond.instanceMethod yX1_sumAhead ∈ Wg := inW3 (i := 215) (by decide +kernel) rfl
theorem seX1_sumAhead : Cond.selects yX1_sumAhead.cls yX1_sumAhead yX1_sumAhead ∈ Wg := inWs (y := yX1_sumAhead) (n := 15) (i := 22) (by decide +kernel)
def mX1_sumBehind : MD := (yX1_sumBehind, cX1_sumBehind, 5, none)
theorem mdX1_sumBehind : Md mX1_sumBehind := ⟨inW3 (i := 233) rfl rfl, inW1 (i := 7) (by decide +kernel) rfl, ⟨by decide +kernel, by decide +kernel⟩, by decide, by decide +kernel⟩
theorem npX1_sumBehind : (parseMethodDescriptor mX1_sumBehind.1.desc).map (fun d => d.parameters.length) = some 0 := by decide +kernel
theorem imX1_sumBehind : Cond.instanceMethod yX1_sumBehind ∈ Wg := inW3 (i := 232) (by decide +kernel) rfl
theorem seX1_sumBehind : Cond.selects yX1_sumBehind.cls yX1_sumBehind yX1_sumBehind ∈ Wg := inWs (y := yX1_sumBehind) (n := 15) (i := 23) (by decide +kernel)
def mX1_sumSeenCells : MD := (yX1_sumSeenCells, cX1_sumSeenCells, 6, none)
theorem mdX1_sumSeenCells : Md mX1_sumSeenCells := ⟨inW4 (i := 0) rfl rfl, inW1 (i := 7) (by decide +kernel) rfl, ⟨by decide +kernel, by decide +kernel⟩, by decide, by decide +kernel⟩
theorem npX1_sumSeenCells : (parseMethodDescriptor mX1_sumSeenCells.1.desc).map (fun d => d.parameters.length) = some 0 := by decide +kernel
theorem imX1_sumSeenCells : Cond.instanceMethod yX1_sumSeenCells ∈ Wg := inW3 (i := 239) (by decide +kernel) rfl
theorem seX1_sumSeenCells : Cond.selects yX1_sumSeenCells.cls yX1_sumSeenCells yX1_sumSeenCells ∈ Wg := inWs (y := yX1_sumSeenCells) (n := 15) (i := 24) (by decide +kernel)
def mX1_addSeen : MD := (yX1_addSeen, cX1_addSeen, 7, none)
theorem mdX1_addSeen : Md mX1_addSeen := ⟨inW4 (i := 12) rfl rfl, inW1 (i := 7) (by decide +kernel) rfl, ⟨by decide +kernel, by decide +kernel⟩, by decide, by decide +kernel⟩
theorem npX1_addSeen : (parseMethodDescriptor mX1_addSeen.1.desc).map (fun d => d.parameters.length) = some 3 := by decide +kernel
theorem imX1_addSeen : Cond.instanceMethod yX1_addSeen ∈ Wg := inW4 (i := 11) (by decide +kernel) rfl
theorem seX1_addSeen : Cond.selects yX1_addSeen.cls yX1_addSeen yX1_addSeen ∈ Wg := inWs (y := yX1_addSeen) (n := 15) (i := 25) (by decide +kernel)
def mX1_seenAt : MD := (yX1_seenAt, cX1_seenAt, 3, (some .int))
theorem mdX1_seenAt : Md mX1_seenAt := ⟨inW4 (i := 16) rfl rfl, inW1 (i := 7) (by decide +kernel) rfl, ⟨by decide +kernel, by decide +kernel⟩, by decide, by decide +kernel⟩
theorem npX1_seenAt : (parseMethodDescriptor mX1_seenAt.1.desc).map (fun d => d.parameters.length) = some 3 := by decide +kernel
theorem smX1_seenAt : Cond.static yX1_seenAt ∈ Wg := inW4 (i := 15) (by decide +kernel) rfl
def mX1_firstNode : MD := (yX1_firstNode, cX1_firstNode, 2, (some .int))
theorem mdX1_firstNode : Md mX1_firstNode := ⟨inW3 (i := 194) rfl rfl, inW1 (i := 7) (by decide +kernel) rfl, ⟨by decide +kernel, by decide +kernel⟩, by decide, by decide +kernel⟩
theorem npX1_firstNode : (parseMethodDescriptor mX1_firstNode.1.desc).map (fun d => d.parameters.length) = some 1 := by decide +kernel
theorem imX1_firstNode : Cond.instanceMethod yX1_firstNode ∈ Wg := inW3 (i := 193) (by decide +kernel) rfl
theorem seX1_firstNode : Cond.selects yX1_firstNode.cls yX1_firstNode yX1_firstNode ∈ Wg := inWs (y := yX1_firstNode) (n := 15) (i := 19) (by decide +kernel)
def mX1_firstLinkOf : MD := (yX1_firstLinkOf, cX1_firstLinkOf, 2, (some .int))
theorem mdX1_firstLinkOf : Md mX1_firstLinkOf := ⟨inW3 (i := 225) rfl rfl, inW1 (i := 7) (by decide +kernel) rfl, ⟨by decide +kernel, by decide +kernel⟩, by decide, by decide +kernel⟩
theorem npX1_firstLinkOf : (parseMethodDescriptor mX1_firstLinkOf.1.desc).map (fun d => d.parameters.length) = some 1 := by decide +kernel
theorem imX1_firstLinkOf : Cond.instanceMethod yX1_firstLinkOf ∈ Wg := inW3 (i := 223) (by decide +kernel) rfl
theorem seX1_firstLinkOf : Cond.selects yX1_firstLinkOf.cls yX1_firstLinkOf yX1_firstLinkOf ∈ Wg := inW3 (i := 224) (by decide +kernel) rfl
def mX1_isLast : MD := (yX1_isLast, cX1_isLast, 2, (some .boolean))
theorem mdX1_isLast : Md mX1_isLast := ⟨inW3 (i := 221) rfl rfl, inW1 (i := 7) (by decide +kernel) rfl, ⟨by decide +kernel, by decide +kernel⟩, by decide, by decide +kernel⟩
theorem npX1_isLast : (parseMethodDescriptor mX1_isLast.1.desc).map (fun d => d.parameters.length) = some 1 := by decide +kernel
theorem imX1_isLast : Cond.instanceMethod yX1_isLast ∈ Wg := inW3 (i := 219) (by decide +kernel) rfl
theorem seX1_isLast : Cond.selects yX1_isLast.cls yX1_isLast yX1_isLast ∈ Wg := inW3 (i := 220) (by decide +kernel) rfl
def mX1_nodeBy : MD := (yX1_nodeBy, cX1_nodeBy, 2, (some .int))
theorem mdX1_nodeBy : Md mX1_nodeBy := ⟨inW4 (i := 99) rfl rfl, inW1 (i := 7) (by decide +kernel) rfl, ⟨by decide +kernel, by decide +kernel⟩, by decide, by decide +kernel⟩
theorem npX1_nodeBy : (parseMethodDescriptor mX1_nodeBy.1.desc).map (fun d => d.parameters.length) = some 1 := by decide +kernel
theorem imX1_nodeBy : Cond.instanceMethod yX1_nodeBy ∈ Wg := inW4 (i := 97) (by decide +kernel) rfl
theorem seX1_nodeBy : Cond.selects yX1_nodeBy.cls yX1_nodeBy yX1_nodeBy ∈ Wg := inW4 (i := 98) (by decide +kernel) rfl
def mX1_lineBy : MD := (yX1_lineBy, cX1_lineBy, 2, (some .int))
theorem mdX1_lineBy : Md mX1_lineBy := ⟨inW4 (i := 4) rfl rfl, inW1 (i := 7) (by decide +kernel) rfl, ⟨by decide +kernel, by decide +kernel⟩, by decide, by decide +kernel⟩
theorem npX1_lineBy : (parseMethodDescriptor mX1_lineBy.1.desc).map (fun d => d.parameters.length) = some 1 := by decide +kernel
theorem imX1_lineBy : Cond.instanceMethod yX1_lineBy ∈ Wg := inW4 (i := 2) (by decide +kernel) rfl
theorem seX1_lineBy : Cond.selects yX1_lineBy.cls yX1_lineBy yX1_lineBy ∈ Wg := inW4 (i := 3) (by decide +kernel) rfl
def mX1_partBy : MD := (yX1_partBy, cX1_partBy, 3, (some .long))
theorem mdX1_partBy : Md mX1_partBy := ⟨inW4 (i := 178) rfl rfl, inW1 (i := 7) (by decide +kernel) rfl, ⟨by decide +kernel, by decide +kernel⟩, by decide, by decide +kernel⟩
theorem npX1_partBy : (parseMethodDescriptor mX1_partBy.1.desc).map (fun d => d.parameters.length) = some 2 := by decide +kernel
theorem imX1_partBy : Cond.instanceMethod yX1_partBy ∈ Wg := inW4 (i := 176) (by decide +kernel) rfl
theorem seX1_partBy : Cond.selects yX1_partBy.cls yX1_partBy yX1_partBy ∈ Wg := inW4 (i := 177) (by decide +kernel) rfl
def mX1_aheadOf : MD := (yX1_aheadOf, cX1_aheadOf, 2, (some .long))
theorem mdX1_aheadOf : Md mX1_aheadOf := ⟨inW4 (i := 8) rfl rfl, inW1 (i := 7) (by decide +kernel) rfl, ⟨by decide +kernel, by decide +kernel⟩, by decide, by decide +kernel⟩
theorem npX1_aheadOf : (parseMethodDescriptor mX1_aheadOf.1.desc).map (fun d => d.parameters.length) = some 1 := by decide +kernel
theorem imX1_aheadOf : Cond.instanceMethod yX1_aheadOf ∈ Wg := inW4 (i := 6) (by decide +kernel) rfl
theorem seX1_aheadOf : Cond.selects yX1_aheadOf.cls yX1_aheadOf yX1_aheadOf ∈ Wg := inW4 (i := 7) (by decide +kernel) rfl
def mX1_size : MD := (yX1_size, cX1_size, 1, (some .long))
theorem mdX1_size : Md mX1_size := ⟨inW4 (i := 77) rfl rfl, inW1 (i := 7) (by decide +kernel) rfl, ⟨by decide +kernel, by decide +kernel⟩, by decide, by decide +kernel⟩
theorem npX1_size : (parseMethodDescriptor mX1_size.1.desc).map (fun d => d.parameters.length) = some 0 := by decide +kernel
theorem imX1_size : Cond.instanceMethod yX1_size ∈ Wg := inW4 (i := 75) (by decide +kernel) rfl
theorem seX1_size : Cond.selects yX1_size.cls yX1_size yX1_size ∈ Wg := inW4 (i := 76) (by decide +kernel) rfl
def mX1_heft : MD := (yX1_heft, cX1_heft, 1, (some .long))
theorem mdX1_heft : Md mX1_heft := ⟨inW4 (i := 191) rfl rfl, inW1 (i := 7) (by decide +kernel) rfl, ⟨by decide +kernel, by decide +kernel⟩, by decide, by decide +kernel⟩
theorem npX1_heft : (parseMethodDescriptor mX1_heft.1.desc).map (fun d => d.parameters.length) = some 0 := by decide +kernel
theorem imX1_heft : Cond.instanceMethod yX1_heft ∈ Wg := inW4 (i := 189) (by decide +kernel) rfl
theorem seX1_heft : Cond.selects yX1_heft.cls yX1_heft yX1_heft ∈ Wg := inW4 (i := 190) (by decide +kernel) rfl
def mX1_timesSeen : MD := (yX1_timesSeen, cX1_timesSeen, 4, (some .long))
theorem mdX1_timesSeen : Md mX1_timesSeen := ⟨inW4 (i := 124) rfl rfl, inW1 (i := 7) (by decide +kernel) rfl, ⟨by decide +kernel, by decide +kernel⟩, by decide, by decide +kernel⟩
theorem npX1_timesSeen : (parseMethodDescriptor mX1_timesSeen.1.desc).map (fun d => d.parameters.length) = some 3 := by decide +kernel
theorem imX1_timesSeen : Cond.instanceMethod yX1_timesSeen ∈ Wg := inW4 (i := 122) (by decide +kernel) rfl
theorem seX1_timesSeen : Cond.selects yX1_timesSeen.cls yX1_timesSeen yX1_timesSeen ∈ Wg := inW4 (i := 123) (by decide +kernel) rfl
def mX1_sumSeen : MD := (yX1_sumSeen, cX1_sumSeen, 6, (some .long))
theorem mdX1_sumSeen : Md mX1_sumSeen := ⟨inW4 (i := 152) rfl rfl, inW1 (i := 7) (by decide +kernel) rfl, ⟨by decide +kernel, by decide +kernel⟩, by decide, by decide +kernel⟩
theorem npX1_sumSeen : (parseMethodDescriptor mX1_sumSeen.1.desc).map (fun d => d.parameters.length) = some 2 := by decide +kernel
theorem imX1_sumSeen : Cond.instanceMethod yX1_sumSeen ∈ Wg := inW4 (i := 150) (by decide +kernel) rfl
theorem seX1_sumSeen : Cond.selects yX1_sumSeen.cls yX1_sumSeen yX1_sumSeen ∈ Wg := inW4 (i := 151) (by decide +kernel) rfl
def mX1_lowestOf : MD := (yX1_lowestOf, cX1_lowestOf, 4, (some .int))
theorem mdX1_lowestOf : Md mX1_lowestOf := ⟨inW4 (i := 120) rfl rfl, inW1 (i := 7) (by decide +kernel) rfl, ⟨by decide +kernel, by decide +kernel⟩, by decide, by decide +kernel⟩
theorem npX1_lowestOf : (parseMethodDescriptor mX1_lowestOf.1.desc).map (fun d => d.parameters.length) = some 2 := by decide +kernel
theorem imX1_lowestOf : Cond.instanceMethod yX1_lowestOf ∈ Wg := inW4 (i := 118) (by decide +kernel) rfl
theorem seX1_lowestOf : Cond.selects yX1_lowestOf.cls yX1_lowestOf yX1_lowestOf ∈ Wg := inW4 (i := 119) (by decide +kernel) rfl
def mX1_highestOf : MD := (yX1_highestOf, cX1_highestOf, 4, (some .int))
theorem mdX1_highestOf : Md mX1_highestOf := ⟨inW4 (i := 135) rfl rfl, inW1 (i := 7) (by decide +kernel) rfl, ⟨by decide +kernel, by decide +kernel⟩, by decide, by decide +kernel⟩
theorem npX1_highestOf : (parseMethodDescriptor mX1_highestOf.1.desc).map (fun d => d.parameters.length) = some 2 := by decide +kernel
theorem imX1_highestOf : Cond.instanceMethod yX1_highestOf ∈ Wg := inW4 (i := 133) (by decide +kernel) rfl
theorem seX1_highestOf : Cond.selects yX1_highestOf.cls yX1_highestOf yX1_highestOf ∈ Wg := inW4 (i := 134) (by decide +kernel) rfl
def mX1_linkBy : MD := (yX1_linkBy, cX1_linkBy, 5, (some .int))
theorem mdX1_linkBy : Md mX1_linkBy := ⟨inW4 (i := 94) rfl rfl, inW1 (i := 7) (by decide +kernel) rfl, ⟨by decide +kernel, by decide +kernel⟩, by decide, by decide +kernel⟩
theorem npX1_linkBy : (parseMethodDescriptor mX1_linkBy.1.desc).map (fun d => d.parameters.length) = some 2 := by decide +kernel
theorem imX1_linkBy : Cond.instanceMethod yX1_linkBy ∈ Wg := inW4 (i := 92) (by decide +kernel) rfl
theorem seX1_linkBy : Cond.selects yX1_linkBy.cls yX1_linkBy yX1_linkBy ∈ Wg := inW4 (i := 93) (by decide +kernel) rfl
def mX1_rankOf : MD := (yX1_rankOf, cX1_rankOf, 9, (some .long))
theorem mdX1_rankOf : Md mX1_rankOf := ⟨inW4 (i := 86) rfl rfl, inW1 (i := 7) (by decide +kernel) rfl, ⟨by decide +kernel, by decide +kernel⟩, by decide, by decide +kernel⟩
theorem npX1_rankOf : (parseMethodDescriptor mX1_rankOf.1.desc).map (fun d => d.parameters.length) = some 1 := by decide +kernel
theorem imX1_rankOf : Cond.instanceMethod yX1_rankOf ∈ Wg := inW4 (i := 84) (by decide +kernel) rfl
theorem seX1_rankOf : Cond.selects yX1_rankOf.cls yX1_rankOf yX1_rankOf ∈ Wg := inW4 (i := 85) (by decide +kernel) rfl
def mX1_cellsOf : MD := (yX1_cellsOf, cX1_cellsOf, 13, (some .long))
theorem mdX1_cellsOf : Md mX1_cellsOf := ⟨inW4 (i := 107) rfl rfl, inW1 (i := 7) (by decide +kernel) rfl, ⟨by decide +kernel, by decide +kernel⟩, by decide, by decide +kernel⟩
theorem npX1_cellsOf : (parseMethodDescriptor mX1_cellsOf.1.desc).map (fun d => d.parameters.length) = some 1 := by decide +kernel
theorem imX1_cellsOf : Cond.instanceMethod yX1_cellsOf ∈ Wg := inW4 (i := 105) (by decide +kernel) rfl
theorem seX1_cellsOf : Cond.selects yX1_cellsOf.cls yX1_cellsOf yX1_cellsOf ∈ Wg := inW4 (i := 106) (by decide +kernel) rfl
def mX2_init : MD := (yX2_init, cX2_init, 1, none)
theorem mdX2_init : Md mX2_init := ⟨inW1 (i := 199) rfl rfl, inW1 (i := 8) (by decide +kernel) rfl, ⟨by decide +kernel, by decide +kernel⟩, by decide, by decide +kernel⟩
theorem npX2_init : (parseMethodDescriptor mX2_init.1.desc).map (fun d => d.parameters.length) = some 0 := by decide +kernel
theorem imX2_init : Cond.instanceMethod yX2_init ∈ Wg := inW1 (i := 198) (by decide +kernel) rfl
def mX2_make : MD := (yX2_make, cX2_make, 3, none)
theorem mdX2_make : Md mX2_make := ⟨inW3 (i := 118) rfl rfl, inW1 (i := 8) (by decide +kernel) rfl, ⟨by decide +kernel, by decide +kernel⟩, by decide, by decide +kernel⟩
theorem npX2_make : (parseMethodDescriptor mX2_make.1.desc).map (fun d => d.parameters.length) = some 1 := by decide +kernel
theorem imX2_make : Cond.instanceMethod yX2_make ∈ Wg := inW3 (i := 116) (by decide +kernel) rfl
theorem seX2_make : Cond.selects yX2_make.cls yX2_make yX2_make ∈ Wg := inW3 (i := 117) (by decide +kernel) rfl
def mX2_firstOf : MD := (yX2_firstOf, cX2_firstOf, 2, (some .int))
theorem mdX2_firstOf : Md mX2_firstOf := ⟨inW3 (i := 205) rfl rfl, inW1 (i := 8) (by decide +kernel) rfl, ⟨by decide +kernel, by decide +kernel⟩, by decide, by decide +kernel⟩
theorem npX2_firstOf : (parseMethodDescriptor mX2_firstOf.1.desc).map (fun d => d.parameters.length) = some 1 := by decide +kernel
theorem imX2_firstOf : Cond.instanceMethod yX2_firstOf ∈ Wg := inW3 (i := 203) (by decide +kernel) rfl
theorem seX2_firstOf : Cond.selects yX2_firstOf.cls yX2_firstOf yX2_firstOf ∈ Wg := inW3 (i := 204) (by decide +kernel) rfl
def mX2_partOf : MD := (yX2_partOf, cX2_partOf, 4, (some .long))
theorem mdX2_partOf : Md mX2_partOf := ⟨inW3 (i := 229) rfl rfl, inW1 (i := 8) (by decide +kernel) rfl, ⟨by decide +kernel, by decide +kernel⟩, by decide, by decide +kernel⟩
theorem npX2_partOf : (parseMethodDescriptor mX2_partOf.1.desc).map (fun d => d.parameters.length) = some 2 := by decide +kernel
theorem imX2_partOf : Cond.instanceMethod yX2_partOf ∈ Wg := inW3 (i := 227) (by decide +kernel) rfl
theorem seX2_partOf : Cond.selects yX2_partOf.cls yX2_partOf yX2_partOf ∈ Wg := inW3 (i := 228) (by decide +kernel) rfl
def mX2_takenByAll : MD := (yX2_takenByAll, cX2_takenByAll, 4, (some .int))
theorem mdX2_takenByAll : Md mX2_takenByAll := ⟨inW3 (i := 174) rfl rfl, inW1 (i := 8) (by decide +kernel) rfl, ⟨by decide +kernel, by decide +kernel⟩, by decide, by decide +kernel⟩
theorem npX2_takenByAll : (parseMethodDescriptor mX2_takenByAll.1.desc).map (fun d => d.parameters.length) = some 1 := by decide +kernel
theorem imX2_takenByAll : Cond.instanceMethod yX2_takenByAll ∈ Wg := inW3 (i := 172) (by decide +kernel) rfl
theorem seX2_takenByAll : Cond.selects yX2_takenByAll.cls yX2_takenByAll yX2_takenByAll ∈ Wg := inW3 (i := 173) (by decide +kernel) rfl
def mX2_codeOfAll : MD := (yX2_codeOfAll, cX2_codeOfAll, 4, (some .int))
theorem mdX2_codeOfAll : Md mX2_codeOfAll := ⟨inW3 (i := 178) rfl rfl, inW1 (i := 8) (by decide +kernel) rfl, ⟨by decide +kernel, by decide +kernel⟩, by decide, by decide +kernel⟩
theorem npX2_codeOfAll : (parseMethodDescriptor mX2_codeOfAll.1.desc).map (fun d => d.parameters.length) = some 1 := by decide +kernel
theorem imX2_codeOfAll : Cond.instanceMethod yX2_codeOfAll ∈ Wg := inW3 (i := 176) (by decide +kernel) rfl
theorem seX2_codeOfAll : Cond.selects yX2_codeOfAll.cls yX2_codeOfAll yX2_codeOfAll ∈ Wg := inW3 (i := 177) (by decide +kernel) rfl
def mX2_setStrides : MD := (yX2_setStrides, cX2_setStrides, 4, none)
theorem mdX2_setStrides : Md mX2_setStrides := ⟨inW3 (i := 122) rfl rfl, inW1 (i := 8) (by decide +kernel) rfl, ⟨by decide +kernel, by decide +kernel⟩, by decide, by decide +kernel⟩
theorem npX2_setStrides : (parseMethodDescriptor mX2_setStrides.1.desc).map (fun d => d.parameters.length) = some 1 := by decide +kernel
theorem imX2_setStrides : Cond.instanceMethod yX2_setStrides ∈ Wg := inW3 (i := 121) (by decide +kernel) rfl
theorem seX2_setStrides : Cond.selects yX2_setStrides.cls yX2_setStrides yX2_setStrides ∈ Wg := inWs (y := yX2_setStrides) (n := 8) (i := 13) (by decide +kernel)
def mX2_setScale : MD := (yX2_setScale, cX2_setScale, 3, none)
theorem mdX2_setScale : Md mX2_setScale := ⟨inW3 (i := 132) rfl rfl, inW1 (i := 8) (by decide +kernel) rfl, ⟨by decide +kernel, by decide +kernel⟩, by decide, by decide +kernel⟩
theorem npX2_setScale : (parseMethodDescriptor mX2_setScale.1.desc).map (fun d => d.parameters.length) = some 1 := by decide +kernel
theorem imX2_setScale : Cond.instanceMethod yX2_setScale ∈ Wg := inW3 (i := 131) (by decide +kernel) rfl
theorem seX2_setScale : Cond.selects yX2_setScale.cls yX2_setScale yX2_setScale ∈ Wg := inWs (y := yX2_setScale) (n := 8) (i := 14) (by decide +kernel)
def mX2_lay : MD := (yX2_lay, cX2_lay, 8, none)
theorem mdX2_lay : Md mX2_lay := ⟨inW3 (i := 142) rfl rfl, inW1 (i := 8) (by decide +kernel) rfl, ⟨by decide +kernel, by decide +kernel⟩, by decide, by decide +kernel⟩
theorem npX2_lay : (parseMethodDescriptor mX2_lay.1.desc).map (fun d => d.parameters.length) = some 6 := by decide +kernel
theorem smX2_lay : Cond.static yX2_lay ∈ Wg := inW3 (i := 141) (by decide +kernel) rfl
def mX2_keep : MD := (yX2_keep, cX2_keep, 19, none)
theorem mdX2_keep : Md mX2_keep := ⟨inW3 (i := 146) rfl rfl, inW1 (i := 8) (by decide +kernel) rfl, ⟨by decide +kernel, by decide +kernel⟩, by decide, by decide +kernel⟩
theorem npX2_keep : (parseMethodDescriptor mX2_keep.1.desc).map (fun d => d.parameters.length) = some 3 := by decide +kernel
theorem imX2_keep : Cond.instanceMethod yX2_keep ∈ Wg := inW3 (i := 145) (by decide +kernel) rfl
theorem seX2_keep : Cond.selects yX2_keep.cls yX2_keep yX2_keep ∈ Wg := inWs (y := yX2_keep) (n := 8) (i := 15) (by decide +kernel)
def mX2_putParts : MD := (yX2_putParts, cX2_putParts, 9, none)
theorem mdX2_putParts : Md mX2_putParts := ⟨inW3 (i := 165) rfl rfl, inW1 (i := 8) (by decide +kernel) rfl, ⟨by decide +kernel, by decide +kernel⟩, by decide, by decide +kernel⟩
theorem npX2_putParts : (parseMethodDescriptor mX2_putParts.1.desc).map (fun d => d.parameters.length) = some 4 := by decide +kernel
theorem imX2_putParts : Cond.instanceMethod yX2_putParts ∈ Wg := inW3 (i := 164) (by decide +kernel) rfl
theorem seX2_putParts : Cond.selects yX2_putParts.cls yX2_putParts yX2_putParts ∈ Wg := inWs (y := yX2_putParts) (n := 8) (i := 16) (by decide +kernel)
def mX2_factorial : MD := (yX2_factorial, cX2_factorial, 1, (some .long))
theorem mdX2_factorial : Md mX2_factorial := ⟨inW3 (i := 149) rfl rfl, inW1 (i := 8) (by decide +kernel) rfl, ⟨by decide +kernel, by decide +kernel⟩, by decide, by decide +kernel⟩
theorem npX2_factorial : (parseMethodDescriptor mX2_factorial.1.desc).map (fun d => d.parameters.length) = some 1 := by decide +kernel
theorem smX2_factorial : Cond.static yX2_factorial ∈ Wg := inW3 (i := 148) (by decide +kernel) rfl
def mX3_shift : MD := (yX3_shift, cX3_shift, 2, (some .int))
theorem mdX3_shift : Md mX3_shift := ⟨inW3 (i := 77) rfl rfl, inW1 (i := 19) (by decide +kernel) rfl, ⟨by decide +kernel, by decide +kernel⟩, by decide, by decide +kernel⟩
theorem npX3_shift : (parseMethodDescriptor mX3_shift.1.desc).map (fun d => d.parameters.length) = some 2 := by decide +kernel
theorem smX3_shift : Cond.static yX3_shift ∈ Wg := inW3 (i := 76) (by decide +kernel) rfl
def mX3_get : MD := (yX3_get, cX3_get, 3, (some .int))
theorem mdX3_get : Md mX3_get := ⟨inW4 (i := 54) rfl rfl, inW1 (i := 19) (by decide +kernel) rfl, ⟨by decide +kernel, by decide +kernel⟩, by decide, by decide +kernel⟩
theorem npX3_get : (parseMethodDescriptor mX3_get.1.desc).map (fun d => d.parameters.length) = some 2 := by decide +kernel
theorem smX3_get : Cond.static yX3_get ∈ Wg := inW4 (i := 53) (by decide +kernel) rfl
def mX3_one : MD := (yX3_one, cX3_one, 2, (some .long))
theorem mdX3_one : Md mX3_one := ⟨inW3 (i := 100) rfl rfl, inW1 (i := 19) (by decide +kernel) rfl, ⟨by decide +kernel, by decide +kernel⟩, by decide, by decide +kernel⟩
theorem npX3_one : (parseMethodDescriptor mX3_one.1.desc).map (fun d => d.parameters.length) = some 2 := by decide +kernel
theorem smX3_one : Cond.static yX3_one ∈ Wg := inW3 (i := 99) (by decide +kernel) rfl
def mX3_swapStep : MD := (yX3_swapStep, cX3_swapStep, 4, (some .long))
theorem mdX3_swapStep : Md mX3_swapStep := ⟨inW3 (i := 97) rfl rfl, inW1 (i := 19) (by decide +kernel) rfl, ⟨by decide +kernel, by decide +kernel⟩, by decide, by decide +kernel⟩
theorem npX3_swapStep : (parseMethodDescriptor mX3_swapStep.1.desc).map (fun d => d.parameters.length) = some 4 := by decide +kernel
theorem smX3_swapStep : Cond.static yX3_swapStep ∈ Wg := inW3 (i := 96) (by decide +kernel) rfl
def mX3_lineOf : MD := (yX3_lineOf, cX3_lineOf, 3, (some .int))
theorem mdX3_lineOf : Md mX3_lineOf := ⟨inW4 (i := 89) rfl rfl, inW1 (i := 19) (by decide +kernel) rfl, ⟨by decide +kernel, by decide +kernel⟩, by decide, by decide +kernel⟩
theorem npX3_lineOf : (parseMethodDescriptor mX3_lineOf.1.desc).map (fun d => d.parameters.length) = some 2 := by decide +kernel
theorem smX3_lineOf : Cond.static yX3_lineOf ∈ Wg := inW4 (i := 88) (by decide +kernel) rfl
def mX3_withLine : MD := (yX3_withLine, cX3_withLine, 4, (some .long))
theorem mdX3_withLine : Md mX3_withLine := ⟨inW4 (i := 110) rfl rfl, inW1 (i := 19) (by decide +kernel) rfl, ⟨by decide +kernel, by decide +kernel⟩, by decide, by decide +kernel⟩
theorem npX3_withLine : (parseMethodDescriptor mX3_withLine.1.desc).map (fun d => d.parameters.length) = some 3 := by decide +kernel
theorem smX3_withLine : Cond.static yX3_withLine ∈ Wg := inW4 (i := 109) (by decide +kernel) rfl
def mX3_inLine : MD := (yX3_inLine, cX3_inLine, 2, (some .int))
theorem mdX3_inLine : Md mX3_inLine := ⟨inW3 (i := 154) rfl rfl, inW1 (i := 19) (by decide +kernel) rfl, ⟨by decide +kernel, by decide +kernel⟩, by decide, by decide +kernel⟩
theorem npX3_inLine : (parseMethodDescriptor mX3_inLine.1.desc).map (fun d => d.parameters.length) = some 2 := by decide +kernel
theorem smX3_inLine : Cond.static yX3_inLine ∈ Wg := inW3 (i := 153) (by decide +kernel) rfl
def mX3_putInLine : MD := (yX3_putInLine, cX3_putInLine, 3, (some .int))
theorem mdX3_putInLine : Md mX3_putInLine := ⟨inW3 (i := 170) rfl rfl, inW1 (i := 19) (by decide +kernel) rfl, ⟨by decide +kernel, by decide +kernel⟩, by decide, by decide +kernel⟩
theorem npX3_putInLine : (parseMethodDescriptor mX3_putInLine.1.desc).map (fun d => d.parameters.length) = some 3 := by decide +kernel
theorem smX3_putInLine : Cond.static yX3_putInLine ∈ Wg := inW3 (i := 169) (by decide +kernel) rfl
def mX4_init : MD := (yX4_init, cX4_init, 2, none)
theorem mdX4_init : Md mX4_init := ⟨inW2 (i := 44) rfl rfl, inW1 (i := 9) (by decide +kernel) rfl, ⟨by decide +kernel, by decide +kernel⟩, by decide, by decide +kernel⟩
theorem npX4_init : (parseMethodDescriptor mX4_init.1.desc).map (fun d => d.parameters.length) = some 1 := by decide +kernel
theorem imX4_init : Cond.instanceMethod yX4_init ∈ Wg := inW2 (i := 43) (by decide +kernel) rfl
def mX4_forget : MD := (yX4_forget, cX4_forget, 2, none)
theorem mdX4_forget : Md mX4_forget := ⟨inW4 (i := 20) rfl rfl, inW1 (i := 9) (by decide +kernel) rfl, ⟨by decide +kernel, by decide +kernel⟩, by decide, by decide +kernel⟩
theorem npX4_forget : (parseMethodDescriptor mX4_forget.1.desc).map (fun d => d.parameters.length) = some 0 := by decide +kernel
theorem imX4_forget : Cond.instanceMethod yX4_forget ∈ Wg := inW4 (i := 18) (by decide +kernel) rfl
theorem seX4_forget : Cond.selects yX4_forget.cls yX4_forget yX4_forget ∈ Wg := inW4 (i := 19) (by decide +kernel) rfl
def mX4_valueOf : MD := (yX4_valueOf, cX4_valueOf, 9, (some .long))
theorem mdX4_valueOf : Md mX4_valueOf := ⟨inW4 (i := 168) rfl rfl, inW1 (i := 9) (by decide +kernel) rfl, ⟨by decide +kernel, by decide +kernel⟩, by decide, by decide +kernel⟩
theorem npX4_valueOf : (parseMethodDescriptor mX4_valueOf.1.desc).map (fun d => d.parameters.length) = some 2 := by decide +kernel
theorem imX4_valueOf : Cond.instanceMethod yX4_valueOf ∈ Wg := inW4 (i := 166) (by decide +kernel) rfl
theorem seX4_valueOf : Cond.selects yX4_valueOf.cls yX4_valueOf yX4_valueOf ∈ Wg := inW4 (i := 167) (by decide +kernel) rfl
def mX4_farOut : MD := (yX4_farOut, cX4_farOut, 4, (some .long))
theorem mdX4_farOut : Md mX4_farOut := ⟨inW5 (i := 14) rfl rfl, inW1 (i := 9) (by decide +kernel) rfl, ⟨by decide +kernel, by decide +kernel⟩, by decide, by decide +kernel⟩
theorem npX4_farOut : (parseMethodDescriptor mX4_farOut.1.desc).map (fun d => d.parameters.length) = some 2 := by decide +kernel
theorem imX4_farOut : Cond.instanceMethod yX4_farOut ∈ Wg := inW5 (i := 12) (by decide +kernel) rfl
theorem seX4_farOut : Cond.selects yX4_farOut.cls yX4_farOut yX4_farOut ∈ Wg := inW5 (i := 13) (by decide +kernel) rfl
def mX4_farOutHeft : MD := (yX4_farOutHeft, cX4_farOutHeft, 4, (some .long))
theorem mdX4_farOutHeft : Md mX4_farOutHeft := ⟨inW5 (i := 33) rfl rfl, inW1 (i := 9) (by decide +kernel) rfl, ⟨by decide +kernel, by decide +kernel⟩, by decide, by decide +kernel⟩
theorem npX4_farOutHeft : (parseMethodDescriptor mX4_farOutHeft.1.desc).map (fun d => d.parameters.length) = some 2 := by decide +kernel
theorem imX4_farOutHeft : Cond.instanceMethod yX4_farOutHeft ∈ Wg := inW5 (i := 31) (by decide +kernel) rfl
theorem seX4_farOutHeft : Cond.selects yX4_farOutHeft.cls yX4_farOutHeft yX4_farOutHeft ∈ Wg := inW5 (i := 32) (by decide +kernel) rfl
def mX4_firstHeaviest : MD := (yX4_firstHeaviest, cX4_firstHeaviest, 1, (some .long))
theorem mdX4_firstHeaviest : Md mX4_firstHeaviest := ⟨inW4 (i := 199) rfl rfl, inW1 (i := 9) (by decide +kernel) rfl, ⟨by decide +kernel, by decide +kernel⟩, by decide, by decide +kernel⟩
theorem npX4_firstHeaviest : (parseMethodDescriptor mX4_firstHeaviest.1.desc).map (fun d => d.parameters.length) = some 0 := by decide +kernel
theorem imX4_firstHeaviest : Cond.instanceMethod yX4_firstHeaviest ∈ Wg := inW4 (i := 197) (by decide +kernel) rfl
theorem seX4_firstHeaviest : Cond.selects yX4_firstHeaviest.cls yX4_firstHeaviest yX4_firstHeaviest ∈ Wg := inW4 (i := 198) (by decide +kernel) rfl
def mX4_firstLightest : MD := (yX4_firstLightest, cX4_firstLightest, 1, (some .long))
theorem mdX4_firstLightest : Md mX4_firstLightest := ⟨inW4 (i := 238) rfl rfl, inW1 (i := 9) (by decide +kernel) rfl, ⟨by decide +kernel, by decide +kernel⟩, by decide, by decide +kernel⟩
theorem npX4_firstLightest : (parseMethodDescriptor mX4_firstLightest.1.desc).map (fun d => d.parameters.length) = some 0 := by decide +kernel
theorem imX4_firstLightest : Cond.instanceMethod yX4_firstLightest ∈ Wg := inW4 (i := 236) (by decide +kernel) rfl
theorem seX4_firstLightest : Cond.selects yX4_firstLightest.cls yX4_firstLightest yX4_firstLightest ∈ Wg := inW4 (i := 237) (by decide +kernel) rfl
def mX4_firstWith : MD := (yX4_firstWith, cX4_firstWith, 14, (some .long))
theorem mdX4_firstWith : Md mX4_firstWith := ⟨inW4 (i := 230) rfl rfl, inW1 (i := 9) (by decide +kernel) rfl, ⟨by decide +kernel, by decide +kernel⟩, by decide, by decide +kernel⟩
theorem npX4_firstWith : (parseMethodDescriptor mX4_firstWith.1.desc).map (fun d => d.parameters.length) = some 1 := by decide +kernel
theorem imX4_firstWith : Cond.instanceMethod yX4_firstWith ∈ Wg := inW4 (i := 229) (by decide +kernel) rfl
theorem seX4_firstWith : Cond.selects yX4_firstWith.cls yX4_firstWith yX4_firstWith ∈ Wg := inWs (y := yX4_firstWith) (n := 11) (i := 28) (by decide +kernel)
def mX4_slot : MD := (yX4_slot, cX4_slot, 2, (some .int))
theorem mdX4_slot : Md mX4_slot := ⟨inW4 (i := 213) rfl rfl, inW1 (i := 9) (by decide +kernel) rfl, ⟨by decide +kernel, by decide +kernel⟩, by decide, by decide +kernel⟩
theorem npX4_slot : (parseMethodDescriptor mX4_slot.1.desc).map (fun d => d.parameters.length) = some 2 := by decide +kernel
theorem smX4_slot : Cond.static yX4_slot ∈ Wg := inW4 (i := 212) (by decide +kernel) rfl
def mX4_start : MD := (yX4_start, cX4_start, 1, (some .long))
theorem mdX4_start : Md mX4_start := ⟨inW4 (i := 171) rfl rfl, inW1 (i := 9) (by decide +kernel) rfl, ⟨by decide +kernel, by decide +kernel⟩, by decide, by decide +kernel⟩
theorem npX4_start : (parseMethodDescriptor mX4_start.1.desc).map (fun d => d.parameters.length) = some 1 := by decide +kernel
theorem smX4_start : Cond.static yX4_start ∈ Wg := inW4 (i := 170) (by decide +kernel) rfl
def mX4_join : MD := (yX4_join, cX4_join, 5, (some .long))
theorem mdX4_join : Md mX4_join := ⟨inW4 (i := 181) rfl rfl, inW1 (i := 9) (by decide +kernel) rfl, ⟨by decide +kernel, by decide +kernel⟩, by decide, by decide +kernel⟩
theorem npX4_join : (parseMethodDescriptor mX4_join.1.desc).map (fun d => d.parameters.length) = some 3 := by decide +kernel
theorem smX4_join : Cond.static yX4_join ∈ Wg := inW4 (i := 180) (by decide +kernel) rfl
def mX4_bound : MD := (yX4_bound, cX4_bound, 3, none)
theorem mdX4_bound : Md mX4_bound := ⟨inW4 (i := 203) rfl rfl, inW1 (i := 9) (by decide +kernel) rfl, ⟨by decide +kernel, by decide +kernel⟩, by decide, by decide +kernel⟩
theorem npX4_bound : (parseMethodDescriptor mX4_bound.1.desc).map (fun d => d.parameters.length) = some 1 := by decide +kernel
theorem imX4_bound : Cond.instanceMethod yX4_bound ∈ Wg := inW4 (i := 202) (by decide +kernel) rfl
theorem seX4_bound : Cond.selects yX4_bound.cls yX4_bound yX4_bound ∈ Wg := inWs (y := yX4_bound) (n := 11) (i := 26) (by decide +kernel)
def mX4_boundNode : MD := (yX4_boundNode, cX4_boundNode, 17, none)
theorem mdX4_boundNode : Md mX4_boundNode := ⟨inW4 (i := 220) rfl rfl, inW1 (i := 9) (by decide +kernel) rfl, ⟨by decide +kernel, by decide +kernel⟩, by decide, by decide +kernel⟩
theorem npX4_boundNode : (parseMethodDescriptor mX4_boundNode.1.desc).map (fun d => d.parameters.length) = some 2 := by decide +kernel
theorem imX4_boundNode : Cond.instanceMethod yX4_boundNode ∈ Wg := inW4 (i := 219) (by decide +kernel) rfl
theorem seX4_boundNode : Cond.selects yX4_boundNode.cls yX4_boundNode yX4_boundNode ∈ Wg := inWs (y := yX4_boundNode) (n := 11) (i := 27) (by decide +kernel)
def mX4_gatherAll : MD := (yX4_gatherAll, cX4_gatherAll, 4, none)
theorem mdX4_gatherAll : Md mX4_gatherAll := ⟨inW5 (i := 19) rfl rfl, inW1 (i := 9) (by decide +kernel) rfl, ⟨by decide +kernel, by decide +kernel⟩, by decide, by decide +kernel⟩
theorem npX4_gatherAll : (parseMethodDescriptor mX4_gatherAll.1.desc).map (fun d => d.parameters.length) = some 2 := by decide +kernel
theorem imX4_gatherAll : Cond.instanceMethod yX4_gatherAll ∈ Wg := inW5 (i := 18) (by decide +kernel) rfl
theorem seX4_gatherAll : Cond.selects yX4_gatherAll.cls yX4_gatherAll yX4_gatherAll ∈ Wg := inWs (y := yX4_gatherAll) (n := 11) (i := 30) (by decide +kernel)
def mX4_gather : MD := (yX4_gather, cX4_gather, 15, none)
theorem mdX4_gather : Md mX4_gather := ⟨inW5 (i := 22) rfl rfl, inW1 (i := 9) (by decide +kernel) rfl, ⟨by decide +kernel, by decide +kernel⟩, by decide, by decide +kernel⟩
theorem npX4_gather : (parseMethodDescriptor mX4_gather.1.desc).map (fun d => d.parameters.length) = some 6 := by decide +kernel
theorem smX4_gather : Cond.static yX4_gather ∈ Wg := inW5 (i := 21) (by decide +kernel) rfl
def mX4_gatherBehind : MD := (yX4_gatherBehind, cX4_gatherBehind, 16, none)
theorem mdX4_gatherBehind : Md mX4_gatherBehind := ⟨inW5 (i := 25) rfl rfl, inW1 (i := 9) (by decide +kernel) rfl, ⟨by decide +kernel, by decide +kernel⟩, by decide, by decide +kernel⟩
theorem npX4_gatherBehind : (parseMethodDescriptor mX4_gatherBehind.1.desc).map (fun d => d.parameters.length) = some 6 := by decide +kernel
theorem smX4_gatherBehind : Cond.static yX4_gatherBehind ∈ Wg := inW5 (i := 24) (by decide +kernel) rfl
def mX5_init : MD := (yX5_init, cX5_init, 1, none)
theorem mdX5_init : Md mX5_init := ⟨inW1 (i := 162) rfl rfl, inW1 (i := 6) (by decide +kernel) rfl, ⟨by decide +kernel, by decide +kernel⟩, by decide, by decide +kernel⟩
theorem npX5_init : (parseMethodDescriptor mX5_init.1.desc).map (fun d => d.parameters.length) = some 0 := by decide +kernel
theorem imX5_init : Cond.instanceMethod yX5_init ∈ Wg := inW1 (i := 161) (by decide +kernel) rfl
def mX5_make : MD := (yX5_make, cX5_make, 5, none)
theorem mdX5_make : Md mX5_make := ⟨inW3 (i := 85) rfl rfl, inW1 (i := 6) (by decide +kernel) rfl, ⟨by decide +kernel, by decide +kernel⟩, by decide, by decide +kernel⟩
theorem npX5_make : (parseMethodDescriptor mX5_make.1.desc).map (fun d => d.parameters.length) = some 1 := by decide +kernel
theorem imX5_make : Cond.instanceMethod yX5_make ∈ Wg := inW3 (i := 83) (by decide +kernel) rfl
theorem seX5_make : Cond.selects yX5_make.cls yX5_make yX5_make ∈ Wg := inW3 (i := 84) (by decide +kernel) rfl
def mX5_addSwaps : MD := (yX5_addSwaps, cX5_addSwaps, 8, none)
theorem mdX5_addSwaps : Md mX5_addSwaps := ⟨inW3 (i := 89) rfl rfl, inW1 (i := 6) (by decide +kernel) rfl, ⟨by decide +kernel, by decide +kernel⟩, by decide, by decide +kernel⟩
theorem npX5_addSwaps : (parseMethodDescriptor mX5_addSwaps.1.desc).map (fun d => d.parameters.length) = some 3 := by decide +kernel
theorem imX5_addSwaps : Cond.instanceMethod yX5_addSwaps ∈ Wg := inW3 (i := 88) (by decide +kernel) rfl
theorem seX5_addSwaps : Cond.selects yX5_addSwaps.cls yX5_addSwaps yX5_addSwaps ∈ Wg := inWs (y := yX5_addSwaps) (n := 7) (i := 10) (by decide +kernel)
def mX5_addTurns : MD := (yX5_addTurns, cX5_addTurns, 13, none)
theorem mdX5_addTurns : Md mX5_addTurns := ⟨inW3 (i := 109) rfl rfl, inW1 (i := 6) (by decide +kernel) rfl, ⟨by decide +kernel, by decide +kernel⟩, by decide, by decide +kernel⟩
theorem npX5_addTurns : (parseMethodDescriptor mX5_addTurns.1.desc).map (fun d => d.parameters.length) = some 4 := by decide +kernel
theorem imX5_addTurns : Cond.instanceMethod yX5_addTurns ∈ Wg := inW3 (i := 108) (by decide +kernel) rfl
theorem seX5_addTurns : Cond.selects yX5_addTurns.cls yX5_addTurns yX5_addTurns ∈ Wg := inWs (y := yX5_addTurns) (n := 7) (i := 12) (by decide +kernel)
def mX5_add : MD := (yX5_add, cX5_add, 6, none)
theorem mdX5_add : Md mX5_add := ⟨inW3 (i := 105) rfl rfl, inW1 (i := 6) (by decide +kernel) rfl, ⟨by decide +kernel, by decide +kernel⟩, by decide, by decide +kernel⟩
theorem npX5_add : (parseMethodDescriptor mX5_add.1.desc).map (fun d => d.parameters.length) = some 4 := by decide +kernel
theorem imX5_add : Cond.instanceMethod yX5_add ∈ Wg := inW3 (i := 104) (by decide +kernel) rfl
theorem seX5_add : Cond.selects yX5_add.cls yX5_add yX5_add ∈ Wg := inWs (y := yX5_add) (n := 7) (i := 11) (by decide +kernel)
def mX5_can : MD := (yX5_can, cX5_can, 4, (some .boolean))
theorem mdX5_can : Md mX5_can := ⟨inW5 (i := 80) rfl rfl, inW1 (i := 6) (by decide +kernel) rfl, ⟨by decide +kernel, by decide +kernel⟩, by decide, by decide +kernel⟩
theorem npX5_can : (parseMethodDescriptor mX5_can.1.desc).map (fun d => d.parameters.length) = some 2 := by decide +kernel
theorem imX5_can : Cond.instanceMethod yX5_can ∈ Wg := inW5 (i := 78) (by decide +kernel) rfl
theorem seX5_can : Cond.selects yX5_can.cls yX5_can yX5_can ∈ Wg := inW5 (i := 79) (by decide +kernel) rfl
def mX5_moved : MD := (yX5_moved, cX5_moved, 4, (some .long))
theorem mdX5_moved : Md mX5_moved := ⟨inW5 (i := 114) rfl rfl, inW1 (i := 6) (by decide +kernel) rfl, ⟨by decide +kernel, by decide +kernel⟩, by decide, by decide +kernel⟩
theorem npX5_moved : (parseMethodDescriptor mX5_moved.1.desc).map (fun d => d.parameters.length) = some 2 := by decide +kernel
theorem imX5_moved : Cond.instanceMethod yX5_moved ∈ Wg := inW5 (i := 112) (by decide +kernel) rfl
theorem seX5_moved : Cond.selects yX5_moved.cls yX5_moved yX5_moved ∈ Wg := inW5 (i := 113) (by decide +kernel) rfl
def mX5_swapsOn : MD := (yX5_swapsOn, cX5_swapsOn, 5, (some .int))
theorem mdX5_swapsOn : Md mX5_swapsOn := ⟨inW5 (i := 76) rfl rfl, inW1 (i := 6) (by decide +kernel) rfl, ⟨by decide +kernel, by decide +kernel⟩, by decide, by decide +kernel⟩
theorem npX5_swapsOn : (parseMethodDescriptor mX5_swapsOn.1.desc).map (fun d => d.parameters.length) = some 1 := by decide +kernel
theorem imX5_swapsOn : Cond.instanceMethod yX5_swapsOn ∈ Wg := inW5 (i := 74) (by decide +kernel) rfl
theorem seX5_swapsOn : Cond.selects yX5_swapsOn.cls yX5_swapsOn yX5_swapsOn ∈ Wg := inW5 (i := 75) (by decide +kernel) rfl
def mX6_init : MD := (yX6_init, cX6_init, 3, none)
theorem mdX6_init : Md mX6_init := ⟨inW2 (i := 85) rfl rfl, inW1 (i := 10) (by decide +kernel) rfl, ⟨by decide +kernel, by decide +kernel⟩, by decide, by decide +kernel⟩
theorem npX6_init : (parseMethodDescriptor mX6_init.1.desc).map (fun d => d.parameters.length) = some 2 := by decide +kernel
theorem imX6_init : Cond.instanceMethod yX6_init ∈ Wg := inW2 (i := 84) (by decide +kernel) rfl
def mX6_forget : MD := (yX6_forget, cX6_forget, 1, none)
theorem mdX6_forget : Md mX6_forget := ⟨inW4 (i := 24) rfl rfl, inW1 (i := 10) (by decide +kernel) rfl, ⟨by decide +kernel, by decide +kernel⟩, by decide, by decide +kernel⟩
theorem npX6_forget : (parseMethodDescriptor mX6_forget.1.desc).map (fun d => d.parameters.length) = some 0 := by decide +kernel
theorem imX6_forget : Cond.instanceMethod yX6_forget ∈ Wg := inW4 (i := 22) (by decide +kernel) rfl
theorem seX6_forget : Cond.selects yX6_forget.cls yX6_forget yX6_forget ∈ Wg := inW4 (i := 23) (by decide +kernel) rfl
def mX6_prepare : MD := (yX6_prepare, cX6_prepare, 2, none)
theorem mdX6_prepare : Md mX6_prepare := ⟨inW5 (i := 94) rfl rfl, inW1 (i := 10) (by decide +kernel) rfl, ⟨by decide +kernel, by decide +kernel⟩, by decide, by decide +kernel⟩
theorem npX6_prepare : (parseMethodDescriptor mX6_prepare.1.desc).map (fun d => d.parameters.length) = some 0 := by decide +kernel
theorem imX6_prepare : Cond.instanceMethod yX6_prepare ∈ Wg := inW5 (i := 92) (by decide +kernel) rfl
theorem seX6_prepare : Cond.selects yX6_prepare.cls yX6_prepare yX6_prepare ∈ Wg := inW5 (i := 93) (by decide +kernel) rfl
def mX6_linkSwaps : MD := (yX6_linkSwaps, cX6_linkSwaps, 4, none)
theorem mdX6_linkSwaps : Md mX6_linkSwaps := ⟨inW5 (i := 109) rfl rfl, inW1 (i := 10) (by decide +kernel) rfl, ⟨by decide +kernel, by decide +kernel⟩, by decide, by decide +kernel⟩
theorem npX6_linkSwaps : (parseMethodDescriptor mX6_linkSwaps.1.desc).map (fun d => d.parameters.length) = some 1 := by decide +kernel
theorem imX6_linkSwaps : Cond.instanceMethod yX6_linkSwaps ∈ Wg := inW5 (i := 108) (by decide +kernel) rfl
theorem seX6_linkSwaps : Cond.selects yX6_linkSwaps.cls yX6_linkSwaps yX6_linkSwaps ∈ Wg := inWs (y := yX6_linkSwaps) (n := 18) (i := 34) (by decide +kernel)
def mX6_addNear : MD := (yX6_addNear, cX6_addNear, 2, none)
theorem mdX6_addNear : Md mX6_addNear := ⟨inW5 (i := 123) rfl rfl, inW1 (i := 10) (by decide +kernel) rfl, ⟨by decide +kernel, by decide +kernel⟩, by decide, by decide +kernel⟩
theorem npX6_addNear : (parseMethodDescriptor mX6_addNear.1.desc).map (fun d => d.parameters.length) = some 1 := by decide +kernel
theorem imX6_addNear : Cond.instanceMethod yX6_addNear ∈ Wg := inW5 (i := 122) (by decide +kernel) rfl
theorem seX6_addNear : Cond.selects yX6_addNear.cls yX6_addNear yX6_addNear ∈ Wg := inWs (y := yX6_addNear) (n := 18) (i := 36) (by decide +kernel)
def mX6_cellsAt : MD := (yX6_cellsAt, cX6_cellsAt, 2, (some .long))
theorem mdX6_cellsAt : Md mX6_cellsAt := ⟨inW5 (i := 104) rfl rfl, inW1 (i := 10) (by decide +kernel) rfl, ⟨by decide +kernel, by decide +kernel⟩, by decide, by decide +kernel⟩
theorem npX6_cellsAt : (parseMethodDescriptor mX6_cellsAt.1.desc).map (fun d => d.parameters.length) = some 1 := by decide +kernel
theorem imX6_cellsAt : Cond.instanceMethod yX6_cellsAt ∈ Wg := inW5 (i := 103) (by decide +kernel) rfl
theorem seX6_cellsAt : Cond.selects yX6_cellsAt.cls yX6_cellsAt yX6_cellsAt ∈ Wg := inWs (y := yX6_cellsAt) (n := 18) (i := 33) (by decide +kernel)
def mX6_firstNearOf : MD := (yX6_firstNearOf, cX6_firstNearOf, 3, (some .int))
theorem mdX6_firstNearOf : Md mX6_firstNearOf := ⟨inW5 (i := 157) rfl rfl, inW1 (i := 10) (by decide +kernel) rfl, ⟨by decide +kernel, by decide +kernel⟩, by decide, by decide +kernel⟩
theorem npX6_firstNearOf : (parseMethodDescriptor mX6_firstNearOf.1.desc).map (fun d => d.parameters.length) = some 1 := by decide +kernel
theorem imX6_firstNearOf : Cond.instanceMethod yX6_firstNearOf ∈ Wg := inW5 (i := 156) (by decide +kernel) rfl
theorem seX6_firstNearOf : Cond.selects yX6_firstNearOf.cls yX6_firstNearOf yX6_firstNearOf ∈ Wg := inWs (y := yX6_firstNearOf) (n := 18) (i := 40) (by decide +kernel)
def mX6_find : MD := (yX6_find, cX6_find, 8, (some .int))
theorem mdX6_find : Md mX6_find := ⟨inW5 (i := 118) rfl rfl, inW1 (i := 10) (by decide +kernel) rfl, ⟨by decide +kernel, by decide +kernel⟩, by decide, by decide +kernel⟩
theorem npX6_find : (parseMethodDescriptor mX6_find.1.desc).map (fun d => d.parameters.length) = some 1 := by decide +kernel
theorem imX6_find : Cond.instanceMethod yX6_find ∈ Wg := inW5 (i := 117) (by decide +kernel) rfl
theorem seX6_find : Cond.selects yX6_find.cls yX6_find yX6_find ∈ Wg := inWs (y := yX6_find) (n := 18) (i := 35) (by decide +kernel)
def mX6_splitIntoClasses : MD := (yX6_splitIntoClasses, cX6_splitIntoClasses, 2, none)
theorem mdX6_splitIntoClasses : Md mX6_splitIntoClasses := ⟨inW5 (i := 143) rfl rfl, inW1 (i := 10) (by decide +kernel) rfl, ⟨by decide +kernel, by decide +kernel⟩, by decide, by decide +kernel⟩
theorem npX6_splitIntoClasses : (parseMethodDescriptor mX6_splitIntoClasses.1.desc).map (fun d => d.parameters.length) = some 0 := by decide +kernel
theorem imX6_splitIntoClasses : Cond.instanceMethod yX6_splitIntoClasses ∈ Wg := inW5 (i := 142) (by decide +kernel) rfl
theorem seX6_splitIntoClasses : Cond.selects yX6_splitIntoClasses.cls yX6_splitIntoClasses yX6_splitIntoClasses ∈ Wg := inWs (y := yX6_splitIntoClasses) (n := 18) (i := 37) (by decide +kernel)
def mX6_spread : MD := (yX6_spread, cX6_spread, 10, none)
theorem mdX6_spread : Md mX6_spread := ⟨inW5 (i := 149) rfl rfl, inW1 (i := 10) (by decide +kernel) rfl, ⟨by decide +kernel, by decide +kernel⟩, by decide, by decide +kernel⟩
theorem npX6_spread : (parseMethodDescriptor mX6_spread.1.desc).map (fun d => d.parameters.length) = some 4 := by decide +kernel
theorem imX6_spread : Cond.instanceMethod yX6_spread ∈ Wg := inW5 (i := 148) (by decide +kernel) rfl
theorem seX6_spread : Cond.selects yX6_spread.cls yX6_spread yX6_spread ∈ Wg := inWs (y := yX6_spread) (n := 18) (i := 38) (by decide +kernel)
def mX6_reach : MD := (yX6_reach, cX6_reach, 5, none)
theorem mdX6_reach : Md mX6_reach := ⟨inW5 (i := 153) rfl rfl, inW1 (i := 10) (by decide +kernel) rfl, ⟨by decide +kernel, by decide +kernel⟩, by decide, by decide +kernel⟩
theorem npX6_reach : (parseMethodDescriptor mX6_reach.1.desc).map (fun d => d.parameters.length) = some 3 := by decide +kernel
theorem imX6_reach : Cond.instanceMethod yX6_reach ∈ Wg := inW5 (i := 152) (by decide +kernel) rfl
theorem seX6_reach : Cond.selects yX6_reach.cls yX6_reach yX6_reach ∈ Wg := inWs (y := yX6_reach) (n := 18) (i := 39) (by decide +kernel)
def mX6_measureFrom : MD := (yX6_measureFrom, cX6_measureFrom, 2, none)
theorem mdX6_measureFrom : Md mX6_measureFrom := ⟨inW5 (i := 214) rfl rfl, inW1 (i := 10) (by decide +kernel) rfl, ⟨by decide +kernel, by decide +kernel⟩, by decide, by decide +kernel⟩
theorem npX6_measureFrom : (parseMethodDescriptor mX6_measureFrom.1.desc).map (fun d => d.parameters.length) = some 1 := by decide +kernel
theorem imX6_measureFrom : Cond.instanceMethod yX6_measureFrom ∈ Wg := inW5 (i := 213) (by decide +kernel) rfl
theorem seX6_measureFrom : Cond.selects yX6_measureFrom.cls yX6_measureFrom yX6_measureFrom ∈ Wg := inWs (y := yX6_measureFrom) (n := 18) (i := 45) (by decide +kernel)
def mX6_distanceOf : MD := (yX6_distanceOf, cX6_distanceOf, 2, (some .int))
theorem mdX6_distanceOf : Md mX6_distanceOf := ⟨inW5 (i := 177) rfl rfl, inW1 (i := 10) (by decide +kernel) rfl, ⟨by decide +kernel, by decide +kernel⟩, by decide, by decide +kernel⟩
theorem npX6_distanceOf : (parseMethodDescriptor mX6_distanceOf.1.desc).map (fun d => d.parameters.length) = some 1 := by decide +kernel
theorem imX6_distanceOf : Cond.instanceMethod yX6_distanceOf ∈ Wg := inW5 (i := 176) (by decide +kernel) rfl
theorem seX6_distanceOf : Cond.selects yX6_distanceOf.cls yX6_distanceOf yX6_distanceOf ∈ Wg := inWs (y := yX6_distanceOf) (n := 18) (i := 42) (by decide +kernel)
def mX6_classTotal : MD := (yX6_classTotal, cX6_classTotal, 1, (some .int))
theorem mdX6_classTotal : Md mX6_classTotal := ⟨inW5 (i := 161) rfl rfl, inW1 (i := 10) (by decide +kernel) rfl, ⟨by decide +kernel, by decide +kernel⟩, by decide, by decide +kernel⟩
theorem npX6_classTotal : (parseMethodDescriptor mX6_classTotal.1.desc).map (fun d => d.parameters.length) = some 0 := by decide +kernel
theorem imX6_classTotal : Cond.instanceMethod yX6_classTotal ∈ Wg := inW5 (i := 159) (by decide +kernel) rfl
theorem seX6_classTotal : Cond.selects yX6_classTotal.cls yX6_classTotal yX6_classTotal ∈ Wg := inW5 (i := 160) (by decide +kernel) rfl
def mX6_headOf : MD := (yX6_headOf, cX6_headOf, 2, (some .int))
theorem mdX6_headOf : Md mX6_headOf := ⟨inW5 (i := 193) rfl rfl, inW1 (i := 10) (by decide +kernel) rfl, ⟨by decide +kernel, by decide +kernel⟩, by decide, by decide +kernel⟩
theorem npX6_headOf : (parseMethodDescriptor mX6_headOf.1.desc).map (fun d => d.parameters.length) = some 1 := by decide +kernel
theorem imX6_headOf : Cond.instanceMethod yX6_headOf ∈ Wg := inW5 (i := 191) (by decide +kernel) rfl
theorem seX6_headOf : Cond.selects yX6_headOf.cls yX6_headOf yX6_headOf ∈ Wg := inW5 (i := 192) (by decide +kernel) rfl
def mX6_classSize : MD := (yX6_classSize, cX6_classSize, 2, (some .int))
theorem mdX6_classSize : Md mX6_classSize := ⟨inW5 (i := 201) rfl rfl, inW1 (i := 10) (by decide +kernel) rfl, ⟨by decide +kernel, by decide +kernel⟩, by decide, by decide +kernel⟩
theorem npX6_classSize : (parseMethodDescriptor mX6_classSize.1.desc).map (fun d => d.parameters.length) = some 1 := by decide +kernel
theorem imX6_classSize : Cond.instanceMethod yX6_classSize ∈ Wg := inW5 (i := 199) (by decide +kernel) rfl
theorem seX6_classSize : Cond.selects yX6_classSize.cls yX6_classSize yX6_classSize ∈ Wg := inW5 (i := 200) (by decide +kernel) rfl
def mX6_joinedTotal : MD := (yX6_joinedTotal, cX6_joinedTotal, 1, (some .int))
theorem mdX6_joinedTotal : Md mX6_joinedTotal := ⟨inW5 (i := 169) rfl rfl, inW1 (i := 10) (by decide +kernel) rfl, ⟨by decide +kernel, by decide +kernel⟩, by decide, by decide +kernel⟩
theorem npX6_joinedTotal : (parseMethodDescriptor mX6_joinedTotal.1.desc).map (fun d => d.parameters.length) = some 0 := by decide +kernel
theorem imX6_joinedTotal : Cond.instanceMethod yX6_joinedTotal ∈ Wg := inW5 (i := 167) (by decide +kernel) rfl
theorem seX6_joinedTotal : Cond.selects yX6_joinedTotal.cls yX6_joinedTotal yX6_joinedTotal ∈ Wg := inW5 (i := 168) (by decide +kernel) rfl
def mX6_countJoined : MD := (yX6_countJoined, cX6_countJoined, 3, (some .int))
theorem mdX6_countJoined : Md mX6_countJoined := ⟨inW5 (i := 173) rfl rfl, inW1 (i := 10) (by decide +kernel) rfl, ⟨by decide +kernel, by decide +kernel⟩, by decide, by decide +kernel⟩
theorem npX6_countJoined : (parseMethodDescriptor mX6_countJoined.1.desc).map (fun d => d.parameters.length) = some 0 := by decide +kernel
theorem imX6_countJoined : Cond.instanceMethod yX6_countJoined ∈ Wg := inW5 (i := 172) (by decide +kernel) rfl
theorem seX6_countJoined : Cond.selects yX6_countJoined.cls yX6_countJoined yX6_countJoined ∈ Wg := inWs (y := yX6_countJoined) (n := 18) (i := 41) (by decide +kernel)
def mX6_spreadByAll : MD := (yX6_spreadByAll, cX6_spreadByAll, 6, none)
theorem mdX6_spreadByAll : Md mX6_spreadByAll := ⟨inW5 (i := 181) rfl rfl, inW1 (i := 10) (by decide +kernel) rfl, ⟨by decide +kernel, by decide +kernel⟩, by decide, by decide +kernel⟩
theorem npX6_spreadByAll : (parseMethodDescriptor mX6_spreadByAll.1.desc).map (fun d => d.parameters.length) = some 1 := by decide +kernel
theorem imX6_spreadByAll : Cond.instanceMethod yX6_spreadByAll ∈ Wg := inW5 (i := 180) (by decide +kernel) rfl
theorem seX6_spreadByAll : Cond.selects yX6_spreadByAll.cls yX6_spreadByAll yX6_spreadByAll ∈ Wg := inWs (y := yX6_spreadByAll) (n := 18) (i := 43) (by decide +kernel)
def mX6_distance : MD := (yX6_distance, cX6_distance, 3, (some .int))
theorem mdX6_distance : Md mX6_distance := ⟨inW5 (i := 210) rfl rfl, inW1 (i := 10) (by decide +kernel) rfl, ⟨by decide +kernel, by decide +kernel⟩, by decide, by decide +kernel⟩
theorem npX6_distance : (parseMethodDescriptor mX6_distance.1.desc).map (fun d => d.parameters.length) = some 2 := by decide +kernel
theorem imX6_distance : Cond.instanceMethod yX6_distance ∈ Wg := inW5 (i := 208) (by decide +kernel) rfl
theorem seX6_distance : Cond.selects yX6_distance.cls yX6_distance yX6_distance ∈ Wg := inW5 (i := 209) (by decide +kernel) rfl
def mX6_greatestDistance : MD := (yX6_greatestDistance, cX6_greatestDistance, 2, (some .int))
theorem mdX6_greatestDistance : Md mX6_greatestDistance := ⟨inW5 (i := 226) rfl rfl, inW1 (i := 10) (by decide +kernel) rfl, ⟨by decide +kernel, by decide +kernel⟩, by decide, by decide +kernel⟩
theorem npX6_greatestDistance : (parseMethodDescriptor mX6_greatestDistance.1.desc).map (fun d => d.parameters.length) = some 1 := by decide +kernel
theorem imX6_greatestDistance : Cond.instanceMethod yX6_greatestDistance ∈ Wg := inW5 (i := 224) (by decide +kernel) rfl
theorem seX6_greatestDistance : Cond.selects yX6_greatestDistance.cls yX6_greatestDistance yX6_greatestDistance ∈ Wg := inW5 (i := 225) (by decide +kernel) rfl
def mX6_firstAtGreatest : MD := (yX6_firstAtGreatest, cX6_firstAtGreatest, 4, (some .int))
theorem mdX6_firstAtGreatest : Md mX6_firstAtGreatest := ⟨inW5 (i := 230) rfl rfl, inW1 (i := 10) (by decide +kernel) rfl, ⟨by decide +kernel, by decide +kernel⟩, by decide, by decide +kernel⟩
theorem npX6_firstAtGreatest : (parseMethodDescriptor mX6_firstAtGreatest.1.desc).map (fun d => d.parameters.length) = some 1 := by decide +kernel
theorem imX6_firstAtGreatest : Cond.instanceMethod yX6_firstAtGreatest ∈ Wg := inW5 (i := 228) (by decide +kernel) rfl
theorem seX6_firstAtGreatest : Cond.selects yX6_firstAtGreatest.cls yX6_firstAtGreatest yX6_firstAtGreatest ∈ Wg := inW5 (i := 229) (by decide +kernel) rfl
def mX6_reached : MD := (yX6_reached, cX6_reached, 5, (some .int))
theorem mdX6_reached : Md mX6_reached := ⟨inW6 (i := 3) rfl rfl, inW1 (i := 10) (by decide +kernel) rfl, ⟨by decide +kernel, by decide +kernel⟩, by decide, by decide +kernel⟩
theorem npX6_reached : (parseMethodDescriptor mX6_reached.1.desc).map (fun d => d.parameters.length) = some 2 := by decide +kernel
theorem imX6_reached : Cond.instanceMethod yX6_reached ∈ Wg := inW6 (i := 1) (by decide +kernel) rfl
theorem seX6_reached : Cond.selects yX6_reached.cls yX6_reached yX6_reached ∈ Wg := inW6 (i := 2) (by decide +kernel) rfl
def mX6_choiceRows : MD := (yX6_choiceRows, cX6_choiceRows, 6, (some .long))
theorem mdX6_choiceRows : Md mX6_choiceRows := ⟨inW6 (i := 11) rfl rfl, inW1 (i := 10) (by decide +kernel) rfl, ⟨by decide +kernel, by decide +kernel⟩, by decide, by decide +kernel⟩
theorem npX6_choiceRows : (parseMethodDescriptor mX6_choiceRows.1.desc).map (fun d => d.parameters.length) = some 3 := by decide +kernel
theorem imX6_choiceRows : Cond.instanceMethod yX6_choiceRows ∈ Wg := inW6 (i := 9) (by decide +kernel) rfl
theorem seX6_choiceRows : Cond.selects yX6_choiceRows.cls yX6_choiceRows yX6_choiceRows ∈ Wg := inW6 (i := 10) (by decide +kernel) rfl
def mX6_choiceRowsTo : MD := (yX6_choiceRowsTo, cX6_choiceRowsTo, 8, (some .long))
theorem mdX6_choiceRowsTo : Md mX6_choiceRowsTo := ⟨inW6 (i := 16) rfl rfl, inW1 (i := 10) (by decide +kernel) rfl, ⟨by decide +kernel, by decide +kernel⟩, by decide, by decide +kernel⟩
theorem npX6_choiceRowsTo : (parseMethodDescriptor mX6_choiceRowsTo.1.desc).map (fun d => d.parameters.length) = some 1 := by decide +kernel
theorem imX6_choiceRowsTo : Cond.instanceMethod yX6_choiceRowsTo ∈ Wg := inW6 (i := 15) (by decide +kernel) rfl
theorem seX6_choiceRowsTo : Cond.selects yX6_choiceRowsTo.cls yX6_choiceRowsTo yX6_choiceRowsTo ∈ Wg := inWs (y := yX6_choiceRowsTo) (n := 18) (i := 47) (by decide +kernel)
def mX8_init : MD := (yX8_init, cX8_init, 1, none)
theorem mdX8_init : Md mX8_init := ⟨inW1 (i := 53) rfl rfl, inW1 (i := 3) (by decide +kernel) rfl, ⟨by decide +kernel, by decide +kernel⟩, by decide, by decide +kernel⟩
theorem npX8_init : (parseMethodDescriptor mX8_init.1.desc).map (fun d => d.parameters.length) = some 0 := by decide +kernel
theorem imX8_init : Cond.instanceMethod yX8_init ∈ Wg := inW1 (i := 52) (by decide +kernel) rfl
def mX8_read : MD := (yX8_read, cX8_read, 3, (some .boolean))
theorem mdX8_read : Md mX8_read := ⟨inW2 (i := 190) rfl rfl, inW1 (i := 3) (by decide +kernel) rfl, ⟨by decide +kernel, by decide +kernel⟩, by decide, by decide +kernel⟩
theorem npX8_read : (parseMethodDescriptor mX8_read.1.desc).map (fun d => d.parameters.length) = some 1 := by decide +kernel
theorem imX8_read : Cond.instanceMethod yX8_read ∈ Wg := inW2 (i := 188) (by decide +kernel) rfl
theorem seX8_read : Cond.selects yX8_read.cls yX8_read yX8_read ∈ Wg := inW2 (i := 189) (by decide +kernel) rfl
def mX8_countAt : MD := (yX8_countAt, cX8_countAt, 3, (some .int))
theorem mdX8_countAt : Md mX8_countAt := ⟨inW3 (i := 74) rfl rfl, inW1 (i := 3) (by decide +kernel) rfl, ⟨by decide +kernel, by decide +kernel⟩, by decide, by decide +kernel⟩
theorem npX8_countAt : (parseMethodDescriptor mX8_countAt.1.desc).map (fun d => d.parameters.length) = some 2 := by decide +kernel
theorem imX8_countAt : Cond.instanceMethod yX8_countAt ∈ Wg := inW3 (i := 72) (by decide +kernel) rfl
theorem seX8_countAt : Cond.selects yX8_countAt.cls yX8_countAt yX8_countAt ∈ Wg := inW3 (i := 73) (by decide +kernel) rfl
def mX8_readSizes : MD := (yX8_readSizes, cX8_readSizes, 4, (some .boolean))
theorem mdX8_readSizes : Md mX8_readSizes := ⟨inW2 (i := 218) rfl rfl, inW1 (i := 3) (by decide +kernel) rfl, ⟨by decide +kernel, by decide +kernel⟩, by decide, by decide +kernel⟩
theorem npX8_readSizes : (parseMethodDescriptor mX8_readSizes.1.desc).map (fun d => d.parameters.length) = some 1 := by decide +kernel
theorem imX8_readSizes : Cond.instanceMethod yX8_readSizes ∈ Wg := inW2 (i := 217) (by decide +kernel) rfl
theorem seX8_readSizes : Cond.selects yX8_readSizes.cls yX8_readSizes yX8_readSizes ∈ Wg := inWs (y := yX8_readSizes) (n := 12) (i := 2) (by decide +kernel)
def mX8_readCounts : MD := (yX8_readCounts, cX8_readCounts, 4, (some .boolean))
theorem mdX8_readCounts : Md mX8_readCounts := ⟨inW3 (i := 53) rfl rfl, inW1 (i := 3) (by decide +kernel) rfl, ⟨by decide +kernel, by decide +kernel⟩, by decide, by decide +kernel⟩
theorem npX8_readCounts : (parseMethodDescriptor mX8_readCounts.1.desc).map (fun d => d.parameters.length) = some 2 := by decide +kernel
theorem imX8_readCounts : Cond.instanceMethod yX8_readCounts ∈ Wg := inW3 (i := 52) (by decide +kernel) rfl
theorem seX8_readCounts : Cond.selects yX8_readCounts.cls yX8_readCounts yX8_readCounts ∈ Wg := inWs (y := yX8_readCounts) (n := 12) (i := 8) (by decide +kernel)
def mX8_readHole : MD := (yX8_readHole, cX8_readHole, 4, (some .boolean))
theorem mdX8_readHole : Md mX8_readHole := ⟨inW3 (i := 61) rfl rfl, inW1 (i := 3) (by decide +kernel) rfl, ⟨by decide +kernel, by decide +kernel⟩, by decide, by decide +kernel⟩
theorem npX8_readHole : (parseMethodDescriptor mX8_readHole.1.desc).map (fun d => d.parameters.length) = some 1 := by decide +kernel
theorem imX8_readHole : Cond.instanceMethod yX8_readHole ∈ Wg := inW3 (i := 60) (by decide +kernel) rfl
theorem seX8_readHole : Cond.selects yX8_readHole.cls yX8_readHole yX8_readHole ∈ Wg := inWs (y := yX8_readHole) (n := 12) (i := 9) (by decide +kernel)
def mX8_passWord : MD := (yX8_passWord, cX8_passWord, 3, (some .boolean))
theorem mdX8_passWord : Md mX8_passWord := ⟨inW2 (i := 223) rfl rfl, inW1 (i := 3) (by decide +kernel) rfl, ⟨by decide +kernel, by decide +kernel⟩, by decide, by decide +kernel⟩
theorem npX8_passWord : (parseMethodDescriptor mX8_passWord.1.desc).map (fun d => d.parameters.length) = some 2 := by decide +kernel
theorem imX8_passWord : Cond.instanceMethod yX8_passWord ∈ Wg := inW2 (i := 222) (by decide +kernel) rfl
theorem seX8_passWord : Cond.selects yX8_passWord.cls yX8_passWord yX8_passWord ∈ Wg := inWs (y := yX8_passWord) (n := 12) (i := 3) (by decide +kernel)
def mX8_passSign : MD := (yX8_passSign, cX8_passSign, 2, (some .boolean))
theorem mdX8_passSign : Md mX8_passSign := ⟨inW3 (i := 49) rfl rfl, inW1 (i := 3) (by decide +kernel) rfl, ⟨by decide +kernel, by decide +kernel⟩, by decide, by decide +kernel⟩
theorem npX8_passSign : (parseMethodDescriptor mX8_passSign.1.desc).map (fun d => d.parameters.length) = some 1 := by decide +kernel
theorem imX8_passSign : Cond.instanceMethod yX8_passSign ∈ Wg := inW3 (i := 48) (by decide +kernel) rfl
theorem seX8_passSign : Cond.selects yX8_passSign.cls yX8_passSign yX8_passSign ∈ Wg := inWs (y := yX8_passSign) (n := 12) (i := 7) (by decide +kernel)
def mX8_isNumber : MD := (yX8_isNumber, cX8_isNumber, 3, (some .boolean))
theorem mdX8_isNumber : Md mX8_isNumber := ⟨inW3 (i := 44) rfl rfl, inW1 (i := 3) (by decide +kernel) rfl, ⟨by decide +kernel, by decide +kernel⟩, by decide, by decide +kernel⟩
theorem npX8_isNumber : (parseMethodDescriptor mX8_isNumber.1.desc).map (fun d => d.parameters.length) = some 2 := by decide +kernel
theorem imX8_isNumber : Cond.instanceMethod yX8_isNumber ∈ Wg := inW3 (i := 43) (by decide +kernel) rfl
theorem seX8_isNumber : Cond.selects yX8_isNumber.cls yX8_isNumber yX8_isNumber ∈ Wg := inWs (y := yX8_isNumber) (n := 12) (i := 6) (by decide +kernel)
def mX8_isWord : MD := (yX8_isWord, cX8_isWord, 4, (some .boolean))
theorem mdX8_isWord : Md mX8_isWord := ⟨inW2 (i := 227) rfl rfl, inW1 (i := 3) (by decide +kernel) rfl, ⟨by decide +kernel, by decide +kernel⟩, by decide, by decide +kernel⟩
theorem npX8_isWord : (parseMethodDescriptor mX8_isWord.1.desc).map (fun d => d.parameters.length) = some 2 := by decide +kernel
theorem imX8_isWord : Cond.instanceMethod yX8_isWord ∈ Wg := inW2 (i := 226) (by decide +kernel) rfl
theorem seX8_isWord : Cond.selects yX8_isWord.cls yX8_isWord yX8_isWord ∈ Wg := inWs (y := yX8_isWord) (n := 12) (i := 4) (by decide +kernel)
def mX8_fail : MD := (yX8_fail, cX8_fail, 2, (some .boolean))
theorem mdX8_fail : Md mX8_fail := ⟨inW3 (i := 39) rfl rfl, inW1 (i := 3) (by decide +kernel) rfl, ⟨by decide +kernel, by decide +kernel⟩, by decide, by decide +kernel⟩
theorem npX8_fail : (parseMethodDescriptor mX8_fail.1.desc).map (fun d => d.parameters.length) = some 1 := by decide +kernel
theorem imX8_fail : Cond.instanceMethod yX8_fail ∈ Wg := inW3 (i := 38) (by decide +kernel) rfl
theorem seX8_fail : Cond.selects yX8_fail.cls yX8_fail yX8_fail ∈ Wg := inWs (y := yX8_fail) (n := 12) (i := 5) (by decide +kernel)
def mX8_advance : MD := (yX8_advance, cX8_advance, 2, none)
theorem mdX8_advance : Md mX8_advance := ⟨inW2 (i := 197) rfl rfl, inW1 (i := 3) (by decide +kernel) rfl, ⟨by decide +kernel, by decide +kernel⟩, by decide, by decide +kernel⟩
theorem npX8_advance : (parseMethodDescriptor mX8_advance.1.desc).map (fun d => d.parameters.length) = some 1 := by decide +kernel
theorem imX8_advance : Cond.instanceMethod yX8_advance ∈ Wg := inW2 (i := 196) (by decide +kernel) rfl
theorem seX8_advance : Cond.selects yX8_advance.cls yX8_advance yX8_advance ∈ Wg := inWs (y := yX8_advance) (n := 12) (i := 0) (by decide +kernel)
def mX8_numberIn : MD := (yX8_numberIn, cX8_numberIn, 4, (some .int))
theorem mdX8_numberIn : Md mX8_numberIn := ⟨inW2 (i := 211) rfl rfl, inW1 (i := 3) (by decide +kernel) rfl, ⟨by decide +kernel, by decide +kernel⟩, by decide, by decide +kernel⟩
theorem npX8_numberIn : (parseMethodDescriptor mX8_numberIn.1.desc).map (fun d => d.parameters.length) = some 1 := by decide +kernel
theorem imX8_numberIn : Cond.instanceMethod yX8_numberIn ∈ Wg := inW2 (i := 210) (by decide +kernel) rfl
theorem seX8_numberIn : Cond.selects yX8_numberIn.cls yX8_numberIn yX8_numberIn ∈ Wg := inWs (y := yX8_numberIn) (n := 12) (i := 1) (by decide +kernel)
def mX8_isBlank : MD := (yX8_isBlank, cX8_isBlank, 1, (some .boolean))
theorem mdX8_isBlank : Md mX8_isBlank := ⟨inW2 (i := 204) rfl rfl, inW1 (i := 3) (by decide +kernel) rfl, ⟨by decide +kernel, by decide +kernel⟩, by decide, by decide +kernel⟩
theorem npX8_isBlank : (parseMethodDescriptor mX8_isBlank.1.desc).map (fun d => d.parameters.length) = some 1 := by decide +kernel
theorem smX8_isBlank : Cond.static yX8_isBlank ∈ Wg := inW2 (i := 203) (by decide +kernel) rfl
def mX8_kindOf : MD := (yX8_kindOf, cX8_kindOf, 3, (some .int))
theorem mdX8_kindOf : Md mX8_kindOf := ⟨inW2 (i := 207) rfl rfl, inW1 (i := 3) (by decide +kernel) rfl, ⟨by decide +kernel, by decide +kernel⟩, by decide, by decide +kernel⟩
theorem npX8_kindOf : (parseMethodDescriptor mX8_kindOf.1.desc).map (fun d => d.parameters.length) = some 2 := by decide +kernel
theorem smX8_kindOf : Cond.static yX8_kindOf ∈ Wg := inW2 (i := 206) (by decide +kernel) rfl
def mX9_init : MD := (yX9_init, cX9_init, 1, none)
theorem mdX9_init : Md mX9_init := ⟨inW1 (i := 102) rfl rfl, inW1 (i := 4) (by decide +kernel) rfl, ⟨by decide +kernel, by decide +kernel⟩, by decide, by decide +kernel⟩
theorem npX9_init : (parseMethodDescriptor mX9_init.1.desc).map (fun d => d.parameters.length) = some 0 := by decide +kernel
theorem imX9_init : Cond.instanceMethod yX9_init ∈ Wg := inW1 (i := 101) (by decide +kernel) rfl
def mX9_take : MD := (yX9_take, cX9_take, 5, none)
theorem mdX9_take : Md mX9_take := ⟨inW3 (i := 69) rfl rfl, inW1 (i := 4) (by decide +kernel) rfl, ⟨by decide +kernel, by decide +kernel⟩, by decide, by decide +kernel⟩
theorem npX9_take : (parseMethodDescriptor mX9_take.1.desc).map (fun d => d.parameters.length) = some 1 := by decide +kernel
theorem imX9_take : Cond.instanceMethod yX9_take ∈ Wg := inW3 (i := 67) (by decide +kernel) rfl
theorem seX9_take : Cond.selects yX9_take.cls yX9_take yX9_take ∈ Wg := inW3 (i := 68) (by decide +kernel) rfl
def mX9_isTold : MD := (yX9_isTold, cX9_isTold, 1, (some .boolean))
theorem mdX9_isTold : Md mX9_isTold := ⟨inW3 (i := 81) rfl rfl, inW1 (i := 4) (by decide +kernel) rfl, ⟨by decide +kernel, by decide +kernel⟩, by decide, by decide +kernel⟩
theorem npX9_isTold : (parseMethodDescriptor mX9_isTold.1.desc).map (fun d => d.parameters.length) = some 0 := by decide +kernel
theorem imX9_isTold : Cond.instanceMethod yX9_isTold ∈ Wg := inW3 (i := 79) (by decide +kernel) rfl
theorem seX9_isTold : Cond.selects yX9_isTold.cls yX9_isTold yX9_isTold ∈ Wg := inW3 (i := 80) (by decide +kernel) rfl
def mX9_has : MD := (yX9_has, cX9_has, 3, (some .boolean))
theorem mdX9_has : Md mX9_has := ⟨inW4 (i := 47) rfl rfl, inW1 (i := 4) (by decide +kernel) rfl, ⟨by decide +kernel, by decide +kernel⟩, by decide, by decide +kernel⟩
theorem npX9_has : (parseMethodDescriptor mX9_has.1.desc).map (fun d => d.parameters.length) = some 2 := by decide +kernel
theorem imX9_has : Cond.instanceMethod yX9_has ∈ Wg := inW4 (i := 45) (by decide +kernel) rfl
theorem seX9_has : Cond.selects yX9_has.cls yX9_has yX9_has ∈ Wg := inW4 (i := 46) (by decide +kernel) rfl
def mX9_at : MD := (yX9_at, cX9_at, 3, (some .int))
theorem mdX9_at : Md mX9_at := ⟨inW4 (i := 51) rfl rfl, inW1 (i := 4) (by decide +kernel) rfl, ⟨by decide +kernel, by decide +kernel⟩, by decide, by decide +kernel⟩
theorem npX9_at : (parseMethodDescriptor mX9_at.1.desc).map (fun d => d.parameters.length) = some 2 := by decide +kernel
theorem imX9_at : Cond.instanceMethod yX9_at ∈ Wg := inW4 (i := 49) (by decide +kernel) rfl
theorem seX9_at : Cond.selects yX9_at.cls yX9_at yX9_at ∈ Wg := inW4 (i := 50) (by decide +kernel) rfl
def mX9_isHole : MD := (yX9_isHole, cX9_isHole, 3, (some .boolean))
theorem mdX9_isHole : Md mX9_isHole := ⟨inW3 (i := 93) rfl rfl, inW1 (i := 4) (by decide +kernel) rfl, ⟨by decide +kernel, by decide +kernel⟩, by decide, by decide +kernel⟩
theorem npX9_isHole : (parseMethodDescriptor mX9_isHole.1.desc).map (fun d => d.parameters.length) = some 2 := by decide +kernel
theorem imX9_isHole : Cond.instanceMethod yX9_isHole ∈ Wg := inW3 (i := 91) (by decide +kernel) rfl
theorem seX9_isHole : Cond.selects yX9_isHole.cls yX9_isHole yX9_isHole ∈ Wg := inW3 (i := 92) (by decide +kernel) rfl
def mX9_rowSum : MD := (yX9_rowSum, cX9_rowSum, 2, (some .int))
theorem mdX9_rowSum : Md mX9_rowSum := ⟨inW3 (i := 136) rfl rfl, inW1 (i := 4) (by decide +kernel) rfl, ⟨by decide +kernel, by decide +kernel⟩, by decide, by decide +kernel⟩
theorem npX9_rowSum : (parseMethodDescriptor mX9_rowSum.1.desc).map (fun d => d.parameters.length) = some 1 := by decide +kernel
theorem imX9_rowSum : Cond.instanceMethod yX9_rowSum ∈ Wg := inW3 (i := 134) (by decide +kernel) rfl
theorem seX9_rowSum : Cond.selects yX9_rowSum.cls yX9_rowSum yX9_rowSum ∈ Wg := inW3 (i := 135) (by decide +kernel) rfl
def mX9_columnSum : MD := (yX9_columnSum, cX9_columnSum, 2, (some .int))
theorem mdX9_columnSum : Md mX9_columnSum := ⟨inW3 (i := 127) rfl rfl, inW1 (i := 4) (by decide +kernel) rfl, ⟨by decide +kernel, by decide +kernel⟩, by decide, by decide +kernel⟩
theorem npX9_columnSum : (parseMethodDescriptor mX9_columnSum.1.desc).map (fun d => d.parameters.length) = some 1 := by decide +kernel
theorem imX9_columnSum : Cond.instanceMethod yX9_columnSum ∈ Wg := inW3 (i := 125) (by decide +kernel) rfl
theorem seX9_columnSum : Cond.selects yX9_columnSum.cls yX9_columnSum yX9_columnSum ∈ Wg := inW3 (i := 126) (by decide +kernel) rfl
def mX9_isFull : MD := (yX9_isFull, cX9_isFull, 1, (some .boolean))
theorem mdX9_isFull : Md mX9_isFull := ⟨inW6 (i := 41) rfl rfl, inW1 (i := 4) (by decide +kernel) rfl, ⟨by decide +kernel, by decide +kernel⟩, by decide, by decide +kernel⟩
theorem npX9_isFull : (parseMethodDescriptor mX9_isFull.1.desc).map (fun d => d.parameters.length) = some 0 := by decide +kernel
theorem imX9_isFull : Cond.instanceMethod yX9_isFull ∈ Wg := inW6 (i := 39) (by decide +kernel) rfl
theorem seX9_isFull : Cond.selects yX9_isFull.cls yX9_isFull yX9_isFull ∈ Wg := inW6 (i := 40) (by decide +kernel) rfl
def mX9_remember : MD := (yX9_remember, cX9_remember, 1, none)
theorem mdX9_remember : Md mX9_remember := ⟨inW6 (i := 50) rfl rfl, inW1 (i := 4) (by decide +kernel) rfl, ⟨by decide +kernel, by decide +kernel⟩, by decide, by decide +kernel⟩
theorem npX9_remember : (parseMethodDescriptor mX9_remember.1.desc).map (fun d => d.parameters.length) = some 0 := by decide +kernel
theorem imX9_remember : Cond.instanceMethod yX9_remember ∈ Wg := inW6 (i := 48) (by decide +kernel) rfl
theorem seX9_remember : Cond.selects yX9_remember.cls yX9_remember yX9_remember ∈ Wg := inW6 (i := 49) (by decide +kernel) rfl
def mX9_goBackTo : MD := (yX9_goBackTo, cX9_goBackTo, 2, none)
theorem mdX9_goBackTo : Md mX9_goBackTo := ⟨inW6 (i := 91) rfl rfl, inW1 (i := 4) (by decide +kernel) rfl, ⟨by decide +kernel, by decide +kernel⟩, by decide, by decide +kernel⟩
theorem npX9_goBackTo : (parseMethodDescriptor mX9_goBackTo.1.desc).map (fun d => d.parameters.length) = some 1 := by decide +kernel
theorem imX9_goBackTo : Cond.instanceMethod yX9_goBackTo ∈ Wg := inW6 (i := 89) (by decide +kernel) rfl
theorem seX9_goBackTo : Cond.selects yX9_goBackTo.cls yX9_goBackTo yX9_goBackTo ∈ Wg := inW6 (i := 90) (by decide +kernel) rfl
def mX9_canSwap : MD := (yX9_canSwap, cX9_canSwap, 5, (some .boolean))
theorem mdX9_canSwap : Md mX9_canSwap := ⟨inW6 (i := 45) rfl rfl, inW1 (i := 4) (by decide +kernel) rfl, ⟨by decide +kernel, by decide +kernel⟩, by decide, by decide +kernel⟩
theorem npX9_canSwap : (parseMethodDescriptor mX9_canSwap.1.desc).map (fun d => d.parameters.length) = some 4 := by decide +kernel
theorem imX9_canSwap : Cond.instanceMethod yX9_canSwap ∈ Wg := inW6 (i := 43) (by decide +kernel) rfl
theorem seX9_canSwap : Cond.selects yX9_canSwap.cls yX9_canSwap yX9_canSwap ∈ Wg := inW6 (i := 44) (by decide +kernel) rfl
def mX9_doSwap : MD := (yX9_doSwap, cX9_doSwap, 5, none)
theorem mdX9_doSwap : Md mX9_doSwap := ⟨inW6 (i := 54) rfl rfl, inW1 (i := 4) (by decide +kernel) rfl, ⟨by decide +kernel, by decide +kernel⟩, by decide, by decide +kernel⟩
theorem npX9_doSwap : (parseMethodDescriptor mX9_doSwap.1.desc).map (fun d => d.parameters.length) = some 4 := by decide +kernel
theorem imX9_doSwap : Cond.instanceMethod yX9_doSwap ∈ Wg := inW6 (i := 52) (by decide +kernel) rfl
theorem seX9_doSwap : Cond.selects yX9_doSwap.cls yX9_doSwap yX9_doSwap ∈ Wg := inW6 (i := 53) (by decide +kernel) rfl
def mX9_choose : MD := (yX9_choose, cX9_choose, 7, (some .boolean))
theorem mdX9_choose : Md mX9_choose := ⟨inW6 (i := 68) rfl rfl, inW1 (i := 4) (by decide +kernel) rfl, ⟨by decide +kernel, by decide +kernel⟩, by decide, by decide +kernel⟩
theorem npX9_choose : (parseMethodDescriptor mX9_choose.1.desc).map (fun d => d.parameters.length) = some 1 := by decide +kernel
theorem imX9_choose : Cond.instanceMethod yX9_choose ∈ Wg := inW6 (i := 66) (by decide +kernel) rfl
theorem seX9_choose : Cond.selects yX9_choose.cls yX9_choose yX9_choose ∈ Wg := inW6 (i := 67) (by decide +kernel) rfl
def mX9_product : MD := (yX9_product, cX9_product, 3, (some .int))
theorem mdX9_product : Md mX9_product := ⟨inW5 (i := 45) rfl rfl, inW1 (i := 4) (by decide +kernel) rfl, ⟨by decide +kernel, by decide +kernel⟩, by decide, by decide +kernel⟩
theorem npX9_product : (parseMethodDescriptor mX9_product.1.desc).map (fun d => d.parameters.length) = some 2 := by decide +kernel
theorem imX9_product : Cond.instanceMethod yX9_product ∈ Wg := inW5 (i := 44) (by decide +kernel) rfl
theorem seX9_product : Cond.selects yX9_product.cls yX9_product yX9_product ∈ Wg := inWs (y := yX9_product) (n := 10) (i := 31) (by decide +kernel)
def mX9_over : MD := (yX9_over, cX9_over, 4, (some .float))
theorem mdX9_over : Md mX9_over := ⟨inW5 (i := 62) rfl rfl, inW1 (i := 4) (by decide +kernel) rfl, ⟨by decide +kernel, by decide +kernel⟩, by decide, by decide +kernel⟩
theorem npX9_over : (parseMethodDescriptor mX9_over.1.desc).map (fun d => d.parameters.length) = some 2 := by decide +kernel
theorem imX9_over : Cond.instanceMethod yX9_over ∈ Wg := inW5 (i := 60) (by decide +kernel) rfl
theorem seX9_over : Cond.selects yX9_over.cls yX9_over yX9_over ∈ Wg := inW5 (i := 61) (by decide +kernel) rfl
def mX9_chiSum : MD := (yX9_chiSum, cX9_chiSum, 9, (some .double))
theorem mdX9_chiSum : Md mX9_chiSum := ⟨inW5 (i := 41) rfl rfl, inW1 (i := 4) (by decide +kernel) rfl, ⟨by decide +kernel, by decide +kernel⟩, by decide, by decide +kernel⟩
theorem npX9_chiSum : (parseMethodDescriptor mX9_chiSum.1.desc).map (fun d => d.parameters.length) = some 0 := by decide +kernel
theorem imX9_chiSum : Cond.instanceMethod yX9_chiSum ∈ Wg := inW5 (i := 39) (by decide +kernel) rfl
theorem seX9_chiSum : Cond.selects yX9_chiSum.cls yX9_chiSum yX9_chiSum ∈ Wg := inW5 (i := 40) (by decide +kernel) rfl
def mX10_init : MD := (yX10_init, cX10_init, 1, none)
theorem mdX10_init : Md mX10_init := ⟨inW1 (i := 37) rfl rfl, inW1 (i := 2) (by decide +kernel) rfl, ⟨by decide +kernel, by decide +kernel⟩, by decide, by decide +kernel⟩
theorem npX10_init : (parseMethodDescriptor mX10_init.1.desc).map (fun d => d.parameters.length) = some 0 := by decide +kernel
theorem imX10_init : Cond.instanceMethod yX10_init ∈ Wg := inW1 (i := 36) (by decide +kernel) rfl
def mX10_hasRoom : MD := (yX10_hasRoom, cX10_hasRoom, 1, (some .boolean))
theorem mdX10_hasRoom : Md mX10_hasRoom := ⟨inW2 (i := 174) rfl rfl, inW1 (i := 2) (by decide +kernel) rfl, ⟨by decide +kernel, by decide +kernel⟩, by decide, by decide +kernel⟩
theorem npX10_hasRoom : (parseMethodDescriptor mX10_hasRoom.1.desc).map (fun d => d.parameters.length) = some 0 := by decide +kernel
theorem imX10_hasRoom : Cond.instanceMethod yX10_hasRoom ∈ Wg := inW2 (i := 172) (by decide +kernel) rfl
theorem seX10_hasRoom : Cond.selects yX10_hasRoom.cls yX10_hasRoom yX10_hasRoom ∈ Wg := inW2 (i := 173) (by decide +kernel) rfl
def mX10_put : MD := (yX10_put, cX10_put, 3, none)
theorem mdX10_put : Md mX10_put := ⟨inW2 (i := 178) rfl rfl, inW1 (i := 2) (by decide +kernel) rfl, ⟨by decide +kernel, by decide +kernel⟩, by decide, by decide +kernel⟩
theorem npX10_put : (parseMethodDescriptor mX10_put.1.desc).map (fun d => d.parameters.length) = some 1 := by decide +kernel
theorem imX10_put : Cond.instanceMethod yX10_put ∈ Wg := inW2 (i := 176) (by decide +kernel) rfl
theorem seX10_put : Cond.selects yX10_put.cls yX10_put yX10_put ∈ Wg := inW2 (i := 177) (by decide +kernel) rfl
def mX10_byteAt : MD := (yX10_byteAt, cX10_byteAt, 2, (some .int))
theorem mdX10_byteAt : Md mX10_byteAt := ⟨inW2 (i := 201) rfl rfl, inW1 (i := 2) (by decide +kernel) rfl, ⟨by decide +kernel, by decide +kernel⟩, by decide, by decide +kernel⟩
theorem npX10_byteAt : (parseMethodDescriptor mX10_byteAt.1.desc).map (fun d => d.parameters.length) = some 1 := by decide +kernel
theorem imX10_byteAt : Cond.instanceMethod yX10_byteAt ∈ Wg := inW2 (i := 199) (by decide +kernel) rfl
theorem seX10_byteAt : Cond.selects yX10_byteAt.cls yX10_byteAt yX10_byteAt ∈ Wg := inW2 (i := 200) (by decide +kernel) rfl
def mX11_init : MD := (yX11_init, cX11_init, 1, none)
theorem mdX11_init : Md mX11_init := ⟨inW1 (i := 29) rfl rfl, inW1 (i := 1) (by decide +kernel) rfl, ⟨by decide +kernel, by decide +kernel⟩, by decide, by decide +kernel⟩
theorem npX11_init : (parseMethodDescriptor mX11_init.1.desc).map (fun d => d.parameters.length) = some 0 := by decide +kernel
theorem imX11_init : Cond.instanceMethod yX11_init ∈ Wg := inW1 (i := 28) (by decide +kernel) rfl
def mX11_feed : MD := (yX11_feed, cX11_feed, 6, (some .int))
theorem mdX11_feed : Md mX11_feed := ⟨inW2 (i := 170) rfl rfl, inW1 (i := 1) (by decide +kernel) rfl, ⟨by decide +kernel, by decide +kernel⟩, by decide, by decide +kernel⟩
theorem npX11_feed : (parseMethodDescriptor mX11_feed.1.desc).map (fun d => d.parameters.length) = some 5 := by decide +kernel
theorem imX11_feed : Cond.instanceMethod yX11_feed ∈ Wg := inW2 (i := 168) (by decide +kernel) rfl
theorem seX11_feed : Cond.selects yX11_feed.cls yX11_feed yX11_feed ∈ Wg := inW2 (i := 169) (by decide +kernel) rfl
def mX11_end : MD := (yX11_end, cX11_end, 2, (some .int))
theorem mdX11_end : Md mX11_end := ⟨inW2 (i := 182) rfl rfl, inW1 (i := 1) (by decide +kernel) rfl, ⟨by decide +kernel, by decide +kernel⟩, by decide, by decide +kernel⟩
theorem npX11_end : (parseMethodDescriptor mX11_end.1.desc).map (fun d => d.parameters.length) = some 1 := by decide +kernel
theorem imX11_end : Cond.instanceMethod yX11_end ∈ Wg := inW2 (i := 180) (by decide +kernel) rfl
theorem seX11_end : Cond.selects yX11_end.cls yX11_end yX11_end ∈ Wg := inW2 (i := 181) (by decide +kernel) rfl
def mX11_table : MD := (yX11_table, cX11_table, 2, (some .int))
theorem mdX11_table : Md mX11_table := ⟨inW2 (i := 186) rfl rfl, inW1 (i := 1) (by decide +kernel) rfl, ⟨by decide +kernel, by decide +kernel⟩, by decide, by decide +kernel⟩
theorem npX11_table : (parseMethodDescriptor mX11_table.1.desc).map (fun d => d.parameters.length) = some 0 := by decide +kernel
theorem imX11_table : Cond.instanceMethod yX11_table ∈ Wg := inW2 (i := 184) (by decide +kernel) rfl
theorem seX11_table : Cond.selects yX11_table.cls yX11_table yX11_table ∈ Wg := inW2 (i := 185) (by decide +kernel) rfl
def mX11_fault : MD := (yX11_fault, cX11_fault, 2, (some .int))
theorem mdX11_fault : Md mX11_fault := ⟨inW4 (i := 29) rfl rfl, inW1 (i := 1) (by decide +kernel) rfl, ⟨by decide +kernel, by decide +kernel⟩, by decide, by decide +kernel⟩
theorem npX11_fault : (parseMethodDescriptor mX11_fault.1.desc).map (fun d => d.parameters.length) = some 1 := by decide +kernel
theorem imX11_fault : Cond.instanceMethod yX11_fault ∈ Wg := inW4 (i := 27) (by decide +kernel) rfl
theorem seX11_fault : Cond.selects yX11_fault.cls yX11_fault yX11_fault ∈ Wg := inW4 (i := 28) (by decide +kernel) rfl
def mX11_count : MD := (yX11_count, cX11_count, 2, (some .int))
theorem mdX11_count : Md mX11_count := ⟨inW4 (i := 33) rfl rfl, inW1 (i := 1) (by decide +kernel) rfl, ⟨by decide +kernel, by decide +kernel⟩, by decide, by decide +kernel⟩
theorem npX11_count : (parseMethodDescriptor mX11_count.1.desc).map (fun d => d.parameters.length) = some 1 := by decide +kernel
theorem imX11_count : Cond.instanceMethod yX11_count ∈ Wg := inW4 (i := 31) (by decide +kernel) rfl
theorem seX11_count : Cond.selects yX11_count.cls yX11_count yX11_count ∈ Wg := inW4 (i := 32) (by decide +kernel) rfl
def mX11_cell : MD := (yX11_cell, cX11_cell, 3, (some .int))
theorem mdX11_cell : Md mX11_cell := ⟨inW4 (i := 43) rfl rfl, inW1 (i := 1) (by decide +kernel) rfl, ⟨by decide +kernel, by decide +kernel⟩, by decide, by decide +kernel⟩
theorem npX11_cell : (parseMethodDescriptor mX11_cell.1.desc).map (fun d => d.parameters.length) = some 2 := by decide +kernel
theorem imX11_cell : Cond.instanceMethod yX11_cell ∈ Wg := inW4 (i := 41) (by decide +kernel) rfl
theorem seX11_cell : Cond.selects yX11_cell.cls yX11_cell yX11_cell ∈ Wg := inW4 (i := 42) (by decide +kernel) rfl
def mX11_hole : MD := (yX11_hole, cX11_hole, 3, (some .int))
theorem mdX11_hole : Md mX11_hole := ⟨inW4 (i := 58) rfl rfl, inW1 (i := 1) (by decide +kernel) rfl, ⟨by decide +kernel, by decide +kernel⟩, by decide, by decide +kernel⟩
theorem npX11_hole : (parseMethodDescriptor mX11_hole.1.desc).map (fun d => d.parameters.length) = some 2 := by decide +kernel
theorem imX11_hole : Cond.instanceMethod yX11_hole ∈ Wg := inW4 (i := 56) (by decide +kernel) rfl
theorem seX11_hole : Cond.selects yX11_hole.cls yX11_hole yX11_hole ∈ Wg := inW4 (i := 57) (by decide +kernel) rfl
def mX11_row : MD := (yX11_row, cX11_row, 2, (some .int))
theorem mdX11_row : Md mX11_row := ⟨inW4 (i := 63) rfl rfl, inW1 (i := 1) (by decide +kernel) rfl, ⟨by decide +kernel, by decide +kernel⟩, by decide, by decide +kernel⟩
theorem npX11_row : (parseMethodDescriptor mX11_row.1.desc).map (fun d => d.parameters.length) = some 1 := by decide +kernel
theorem imX11_row : Cond.instanceMethod yX11_row ∈ Wg := inW4 (i := 61) (by decide +kernel) rfl
theorem seX11_row : Cond.selects yX11_row.cls yX11_row yX11_row ∈ Wg := inW4 (i := 62) (by decide +kernel) rfl
def mX11_column : MD := (yX11_column, cX11_column, 2, (some .int))
theorem mdX11_column : Md mX11_column := ⟨inW4 (i := 68) rfl rfl, inW1 (i := 1) (by decide +kernel) rfl, ⟨by decide +kernel, by decide +kernel⟩, by decide, by decide +kernel⟩
theorem npX11_column : (parseMethodDescriptor mX11_column.1.desc).map (fun d => d.parameters.length) = some 1 := by decide +kernel
theorem imX11_column : Cond.instanceMethod yX11_column ∈ Wg := inW4 (i := 66) (by decide +kernel) rfl
theorem seX11_column : Cond.selects yX11_column.cls yX11_column yX11_column ∈ Wg := inW4 (i := 67) (by decide +kernel) rfl
def mX11_tables : MD := (yX11_tables, cX11_tables, 1, (some .long))
theorem mdX11_tables : Md mX11_tables := ⟨inW4 (i := 73) rfl rfl, inW1 (i := 1) (by decide +kernel) rfl, ⟨by decide +kernel, by decide +kernel⟩, by decide, by decide +kernel⟩
theorem npX11_tables : (parseMethodDescriptor mX11_tables.1.desc).map (fun d => d.parameters.length) = some 0 := by decide +kernel
theorem imX11_tables : Cond.instanceMethod yX11_tables ∈ Wg := inW4 (i := 71) (by decide +kernel) rfl
theorem seX11_tables : Cond.selects yX11_tables.cls yX11_tables yX11_tables ∈ Wg := inW4 (i := 72) (by decide +kernel) rfl
def mX11_rank : MD := (yX11_rank, cX11_rank, 1, (some .long))
theorem mdX11_rank : Md mX11_rank := ⟨inW4 (i := 82) rfl rfl, inW1 (i := 1) (by decide +kernel) rfl, ⟨by decide +kernel, by decide +kernel⟩, by decide, by decide +kernel⟩
theorem npX11_rank : (parseMethodDescriptor mX11_rank.1.desc).map (fun d => d.parameters.length) = some 0 := by decide +kernel
theorem imX11_rank : Cond.instanceMethod yX11_rank ∈ Wg := inW4 (i := 80) (by decide +kernel) rfl
theorem seX11_rank : Cond.selects yX11_rank.cls yX11_rank yX11_rank ∈ Wg := inW4 (i := 81) (by decide +kernel) rfl
def mX11_of : MD := (yX11_of, cX11_of, 5, (some .int))
theorem mdX11_of : Md mX11_of := ⟨inW4 (i := 103) rfl rfl, inW1 (i := 1) (by decide +kernel) rfl, ⟨by decide +kernel, by decide +kernel⟩, by decide, by decide +kernel⟩
theorem npX11_of : (parseMethodDescriptor mX11_of.1.desc).map (fun d => d.parameters.length) = some 3 := by decide +kernel
theorem imX11_of : Cond.instanceMethod yX11_of ∈ Wg := inW4 (i := 101) (by decide +kernel) rfl
theorem seX11_of : Cond.selects yX11_of.cls yX11_of yX11_of ∈ Wg := inW4 (i := 102) (by decide +kernel) rfl
def mX11_least : MD := (yX11_least, cX11_least, 3, (some .int))
theorem mdX11_least : Md mX11_least := ⟨inW4 (i := 116) rfl rfl, inW1 (i := 1) (by decide +kernel) rfl, ⟨by decide +kernel, by decide +kernel⟩, by decide, by decide +kernel⟩
theorem npX11_least : (parseMethodDescriptor mX11_least.1.desc).map (fun d => d.parameters.length) = some 2 := by decide +kernel
theorem imX11_least : Cond.instanceMethod yX11_least ∈ Wg := inW4 (i := 114) (by decide +kernel) rfl
theorem seX11_least : Cond.selects yX11_least.cls yX11_least yX11_least ∈ Wg := inW4 (i := 115) (by decide +kernel) rfl
def mX11_most : MD := (yX11_most, cX11_most, 3, (some .int))
theorem mdX11_most : Md mX11_most := ⟨inW4 (i := 131) rfl rfl, inW1 (i := 1) (by decide +kernel) rfl, ⟨by decide +kernel, by decide +kernel⟩, by decide, by decide +kernel⟩
theorem npX11_most : (parseMethodDescriptor mX11_most.1.desc).map (fun d => d.parameters.length) = some 2 := by decide +kernel
theorem imX11_most : Cond.instanceMethod yX11_most ∈ Wg := inW4 (i := 129) (by decide +kernel) rfl
theorem seX11_most : Cond.selects yX11_most.cls yX11_most yX11_most ∈ Wg := inW4 (i := 130) (by decide +kernel) rfl
def mX11_fixed : MD := (yX11_fixed, cX11_fixed, 4, (some .int))
theorem mdX11_fixed : Md mX11_fixed := ⟨inW4 (i := 139) rfl rfl, inW1 (i := 1) (by decide +kernel) rfl, ⟨by decide +kernel, by decide +kernel⟩, by decide, by decide +kernel⟩
theorem npX11_fixed : (parseMethodDescriptor mX11_fixed.1.desc).map (fun d => d.parameters.length) = some 0 := by decide +kernel
theorem imX11_fixed : Cond.instanceMethod yX11_fixed ∈ Wg := inW4 (i := 137) (by decide +kernel) rfl
theorem seX11_fixed : Cond.selects yX11_fixed.cls yX11_fixed yX11_fixed ∈ Wg := inW4 (i := 138) (by decide +kernel) rfl
def mX11_having : MD := (yX11_having, cX11_having, 4, (some .long))
theorem mdX11_having : Md mX11_having := ⟨inW4 (i := 143) rfl rfl, inW1 (i := 1) (by decide +kernel) rfl, ⟨by decide +kernel, by decide +kernel⟩, by decide, by decide +kernel⟩
theorem npX11_having : (parseMethodDescriptor mX11_having.1.desc).map (fun d => d.parameters.length) = some 3 := by decide +kernel
theorem imX11_having : Cond.instanceMethod yX11_having ∈ Wg := inW4 (i := 141) (by decide +kernel) rfl
theorem seX11_having : Cond.selects yX11_having.cls yX11_having yX11_having ∈ Wg := inW4 (i := 142) (by decide +kernel) rfl
def mX11_mean : MD := (yX11_mean, cX11_mean, 4, (some .long))
theorem mdX11_mean : Md mX11_mean := ⟨inW4 (i := 148) rfl rfl, inW1 (i := 1) (by decide +kernel) rfl, ⟨by decide +kernel, by decide +kernel⟩, by decide, by decide +kernel⟩
theorem npX11_mean : (parseMethodDescriptor mX11_mean.1.desc).map (fun d => d.parameters.length) = some 3 := by decide +kernel
theorem imX11_mean : Cond.instanceMethod yX11_mean ∈ Wg := inW4 (i := 146) (by decide +kernel) rfl
theorem seX11_mean : Cond.selects yX11_mean.cls yX11_mean yX11_mean ∈ Wg := inW4 (i := 147) (by decide +kernel) rfl
def mX11_weight : MD := (yX11_weight, cX11_weight, 1, (some .long))
theorem mdX11_weight : Md mX11_weight := ⟨inW4 (i := 164) rfl rfl, inW1 (i := 1) (by decide +kernel) rfl, ⟨by decide +kernel, by decide +kernel⟩, by decide, by decide +kernel⟩
theorem npX11_weight : (parseMethodDescriptor mX11_weight.1.desc).map (fun d => d.parameters.length) = some 0 := by decide +kernel
theorem imX11_weight : Cond.instanceMethod yX11_weight ∈ Wg := inW4 (i := 162) (by decide +kernel) rfl
theorem seX11_weight : Cond.selects yX11_weight.cls yX11_weight yX11_weight ∈ Wg := inW4 (i := 163) (by decide +kernel) rfl
def mX11_weights : MD := (yX11_weights, cX11_weights, 1, (some .long))
theorem mdX11_weights : Md mX11_weights := ⟨inW4 (i := 187) rfl rfl, inW1 (i := 1) (by decide +kernel) rfl, ⟨by decide +kernel, by decide +kernel⟩, by decide, by decide +kernel⟩
theorem npX11_weights : (parseMethodDescriptor mX11_weights.1.desc).map (fun d => d.parameters.length) = some 0 := by decide +kernel
theorem imX11_weights : Cond.instanceMethod yX11_weights ∈ Wg := inW4 (i := 185) (by decide +kernel) rfl
theorem seX11_weights : Cond.selects yX11_weights.cls yX11_weights yX11_weights ∈ Wg := inW4 (i := 186) (by decide +kernel) rfl
def mX11_heaviest : MD := (yX11_heaviest, cX11_heaviest, 1, (some .long))
theorem mdX11_heaviest : Md mX11_heaviest := ⟨inW4 (i := 195) rfl rfl, inW1 (i := 1) (by decide +kernel) rfl, ⟨by decide +kernel, by decide +kernel⟩, by decide, by decide +kernel⟩
theorem npX11_heaviest : (parseMethodDescriptor mX11_heaviest.1.desc).map (fun d => d.parameters.length) = some 0 := by decide +kernel
theorem imX11_heaviest : Cond.instanceMethod yX11_heaviest ∈ Wg := inW4 (i := 193) (by decide +kernel) rfl
theorem seX11_heaviest : Cond.selects yX11_heaviest.cls yX11_heaviest yX11_heaviest ∈ Wg := inW4 (i := 194) (by decide +kernel) rfl
def mX11_lightest : MD := (yX11_lightest, cX11_lightest, 1, (some .long))
theorem mdX11_lightest : Md mX11_lightest := ⟨inW4 (i := 234) rfl rfl, inW1 (i := 1) (by decide +kernel) rfl, ⟨by decide +kernel, by decide +kernel⟩, by decide, by decide +kernel⟩
theorem npX11_lightest : (parseMethodDescriptor mX11_lightest.1.desc).map (fun d => d.parameters.length) = some 0 := by decide +kernel
theorem imX11_lightest : Cond.instanceMethod yX11_lightest ∈ Wg := inW4 (i := 232) (by decide +kernel) rfl
theorem seX11_lightest : Cond.selects yX11_lightest.cls yX11_lightest yX11_lightest ∈ Wg := inW4 (i := 233) (by decide +kernel) rfl
def mX11_statistic : MD := (yX11_statistic, cX11_statistic, 2, (some .long))
theorem mdX11_statistic : Md mX11_statistic := ⟨inW5 (i := 2) rfl rfl, inW1 (i := 1) (by decide +kernel) rfl, ⟨by decide +kernel, by decide +kernel⟩, by decide, by decide +kernel⟩
theorem npX11_statistic : (parseMethodDescriptor mX11_statistic.1.desc).map (fun d => d.parameters.length) = some 1 := by decide +kernel
theorem imX11_statistic : Cond.instanceMethod yX11_statistic ∈ Wg := inW5 (i := 0) (by decide +kernel) rfl
theorem seX11_statistic : Cond.selects yX11_statistic.cls yX11_statistic yX11_statistic ∈ Wg := inW5 (i := 1) (by decide +kernel) rfl
def mX11_extreme : MD := (yX11_extreme, cX11_extreme, 2, (some .long))
theorem mdX11_extreme : Md mX11_extreme := ⟨inW5 (i := 10) rfl rfl, inW1 (i := 1) (by decide +kernel) rfl, ⟨by decide +kernel, by decide +kernel⟩, by decide, by decide +kernel⟩
theorem npX11_extreme : (parseMethodDescriptor mX11_extreme.1.desc).map (fun d => d.parameters.length) = some 1 := by decide +kernel
theorem imX11_extreme : Cond.instanceMethod yX11_extreme ∈ Wg := inW5 (i := 8) (by decide +kernel) rfl
theorem seX11_extreme : Cond.selects yX11_extreme.cls yX11_extreme yX11_extreme ∈ Wg := inW5 (i := 9) (by decide +kernel) rfl
def mX11_share : MD := (yX11_share, cX11_share, 3, (some .long))
theorem mdX11_share : Md mX11_share := ⟨inW5 (i := 29) rfl rfl, inW1 (i := 1) (by decide +kernel) rfl, ⟨by decide +kernel, by decide +kernel⟩, by decide, by decide +kernel⟩
theorem npX11_share : (parseMethodDescriptor mX11_share.1.desc).map (fun d => d.parameters.length) = some 2 := by decide +kernel
theorem imX11_share : Cond.instanceMethod yX11_share ∈ Wg := inW5 (i := 27) (by decide +kernel) rfl
theorem seX11_share : Cond.selects yX11_share.cls yX11_share yX11_share ∈ Wg := inW5 (i := 28) (by decide +kernel) rfl
def mX11_chi : MD := (yX11_chi, cX11_chi, 1, (some .long))
theorem mdX11_chi : Md mX11_chi := ⟨inW5 (i := 37) rfl rfl, inW1 (i := 1) (by decide +kernel) rfl, ⟨by decide +kernel, by decide +kernel⟩, by decide, by decide +kernel⟩
theorem npX11_chi : (parseMethodDescriptor mX11_chi.1.desc).map (fun d => d.parameters.length) = some 0 := by decide +kernel
theorem imX11_chi : Cond.instanceMethod yX11_chi ∈ Wg := inW5 (i := 35) (by decide +kernel) rfl
theorem seX11_chi : Cond.selects yX11_chi.cls yX11_chi yX11_chi ∈ Wg := inW5 (i := 36) (by decide +kernel) rfl
def mX11_excess : MD := (yX11_excess, cX11_excess, 3, (some .int))
theorem mdX11_excess : Md mX11_excess := ⟨inW5 (i := 58) rfl rfl, inW1 (i := 1) (by decide +kernel) rfl, ⟨by decide +kernel, by decide +kernel⟩, by decide, by decide +kernel⟩
theorem npX11_excess : (parseMethodDescriptor mX11_excess.1.desc).map (fun d => d.parameters.length) = some 2 := by decide +kernel
theorem imX11_excess : Cond.instanceMethod yX11_excess ∈ Wg := inW5 (i := 56) (by decide +kernel) rfl
theorem seX11_excess : Cond.selects yX11_excess.cls yX11_excess yX11_excess ∈ Wg := inW5 (i := 57) (by decide +kernel) rfl
def mX11_swaps : MD := (yX11_swaps, cX11_swaps, 1, (some .int))
theorem mdX11_swaps : Md mX11_swaps := ⟨inW5 (i := 72) rfl rfl, inW1 (i := 1) (by decide +kernel) rfl, ⟨by decide +kernel, by decide +kernel⟩, by decide, by decide +kernel⟩
theorem npX11_swaps : (parseMethodDescriptor mX11_swaps.1.desc).map (fun d => d.parameters.length) = some 0 := by decide +kernel
theorem imX11_swaps : Cond.instanceMethod yX11_swaps ∈ Wg := inW5 (i := 70) (by decide +kernel) rfl
theorem seX11_swaps : Cond.selects yX11_swaps.cls yX11_swaps yX11_swaps ∈ Wg := inW5 (i := 71) (by decide +kernel) rfl
def mX11_classes : MD := (yX11_classes, cX11_classes, 2, (some .int))
theorem mdX11_classes : Md mX11_classes := ⟨inW5 (i := 85) rfl rfl, inW1 (i := 1) (by decide +kernel) rfl, ⟨by decide +kernel, by decide +kernel⟩, by decide, by decide +kernel⟩
theorem npX11_classes : (parseMethodDescriptor mX11_classes.1.desc).map (fun d => d.parameters.length) = some 0 := by decide +kernel
theorem imX11_classes : Cond.instanceMethod yX11_classes ∈ Wg := inW5 (i := 83) (by decide +kernel) rfl
theorem seX11_classes : Cond.selects yX11_classes.cls yX11_classes yX11_classes ∈ Wg := inW5 (i := 84) (by decide +kernel) rfl
def mX11_joined : MD := (yX11_joined, cX11_joined, 2, (some .int))
theorem mdX11_joined : Md mX11_joined := ⟨inW5 (i := 165) rfl rfl, inW1 (i := 1) (by decide +kernel) rfl, ⟨by decide +kernel, by decide +kernel⟩, by decide, by decide +kernel⟩
theorem npX11_joined : (parseMethodDescriptor mX11_joined.1.desc).map (fun d => d.parameters.length) = some 0 := by decide +kernel
theorem imX11_joined : Cond.instanceMethod yX11_joined ∈ Wg := inW5 (i := 163) (by decide +kernel) rfl
theorem seX11_joined : Cond.selects yX11_joined.cls yX11_joined yX11_joined ∈ Wg := inW5 (i := 164) (by decide +kernel) rfl
def mX11_classOf : MD := (yX11_classOf, cX11_classOf, 3, (some .int))
theorem mdX11_classOf : Md mX11_classOf := ⟨inW5 (i := 185) rfl rfl, inW1 (i := 1) (by decide +kernel) rfl, ⟨by decide +kernel, by decide +kernel⟩, by decide, by decide +kernel⟩
theorem npX11_classOf : (parseMethodDescriptor mX11_classOf.1.desc).map (fun d => d.parameters.length) = some 1 := by decide +kernel
theorem imX11_classOf : Cond.instanceMethod yX11_classOf ∈ Wg := inW5 (i := 183) (by decide +kernel) rfl
theorem seX11_classOf : Cond.selects yX11_classOf.cls yX11_classOf yX11_classOf ∈ Wg := inW5 (i := 184) (by decide +kernel) rfl
def mX11_sized : MD := (yX11_sized, cX11_sized, 3, (some .int))
theorem mdX11_sized : Md mX11_sized := ⟨inW5 (i := 197) rfl rfl, inW1 (i := 1) (by decide +kernel) rfl, ⟨by decide +kernel, by decide +kernel⟩, by decide, by decide +kernel⟩
theorem npX11_sized : (parseMethodDescriptor mX11_sized.1.desc).map (fun d => d.parameters.length) = some 1 := by decide +kernel
theorem imX11_sized : Cond.instanceMethod yX11_sized ∈ Wg := inW5 (i := 195) (by decide +kernel) rfl
theorem seX11_sized : Cond.selects yX11_sized.cls yX11_sized yX11_sized ∈ Wg := inW5 (i := 196) (by decide +kernel) rfl
def mX11_apart : MD := (yX11_apart, cX11_apart, 4, (some .int))
theorem mdX11_apart : Md mX11_apart := ⟨inW5 (i := 206) rfl rfl, inW1 (i := 1) (by decide +kernel) rfl, ⟨by decide +kernel, by decide +kernel⟩, by decide, by decide +kernel⟩
theorem npX11_apart : (parseMethodDescriptor mX11_apart.1.desc).map (fun d => d.parameters.length) = some 2 := by decide +kernel
theorem imX11_apart : Cond.instanceMethod yX11_apart ∈ Wg := inW5 (i := 204) (by decide +kernel) rfl
theorem seX11_apart : Cond.selects yX11_apart.cls yX11_apart yX11_apart ∈ Wg := inW5 (i := 205) (by decide +kernel) rfl
def mX11_far : MD := (yX11_far, cX11_far, 2, (some .int))
theorem mdX11_far : Md mX11_far := ⟨inW5 (i := 218) rfl rfl, inW1 (i := 1) (by decide +kernel) rfl, ⟨by decide +kernel, by decide +kernel⟩, by decide, by decide +kernel⟩
theorem npX11_far : (parseMethodDescriptor mX11_far.1.desc).map (fun d => d.parameters.length) = some 0 := by decide +kernel
theorem imX11_far : Cond.instanceMethod yX11_far ∈ Wg := inW5 (i := 216) (by decide +kernel) rfl
theorem seX11_far : Cond.selects yX11_far.cls yX11_far yX11_far ∈ Wg := inW5 (i := 217) (by decide +kernel) rfl
def mX11_farthest : MD := (yX11_farthest, cX11_farthest, 2, (some .int))
theorem mdX11_farthest : Md mX11_farthest := ⟨inW5 (i := 234) rfl rfl, inW1 (i := 1) (by decide +kernel) rfl, ⟨by decide +kernel, by decide +kernel⟩, by decide, by decide +kernel⟩
theorem npX11_farthest : (parseMethodDescriptor mX11_farthest.1.desc).map (fun d => d.parameters.length) = some 0 := by decide +kernel
theorem imX11_farthest : Cond.instanceMethod yX11_farthest ∈ Wg := inW5 (i := 232) (by decide +kernel) rfl
theorem seX11_farthest : Cond.selects yX11_farthest.cls yX11_farthest yX11_farthest ∈ Wg := inW5 (i := 233) (by decide +kernel) rfl
def mX11_within : MD := (yX11_within, cX11_within, 3, (some .int))
theorem mdX11_within : Md mX11_within := ⟨inW5 (i := 239) rfl rfl, inW1 (i := 1) (by decide +kernel) rfl, ⟨by decide +kernel, by decide +kernel⟩, by decide, by decide +kernel⟩
theorem npX11_within : (parseMethodDescriptor mX11_within.1.desc).map (fun d => d.parameters.length) = some 1 := by decide +kernel
theorem imX11_within : Cond.instanceMethod yX11_within ∈ Wg := inW5 (i := 237) (by decide +kernel) rfl
theorem seX11_within : Cond.selects yX11_within.cls yX11_within yX11_within ∈ Wg := inW5 (i := 238) (by decide +kernel) rfl
def mX11_ways : MD := (yX11_ways, cX11_ways, 4, (some .long))
theorem mdX11_ways : Md mX11_ways := ⟨inW6 (i := 7) rfl rfl, inW1 (i := 1) (by decide +kernel) rfl, ⟨by decide +kernel, by decide +kernel⟩, by decide, by decide +kernel⟩
theorem npX11_ways : (parseMethodDescriptor mX11_ways.1.desc).map (fun d => d.parameters.length) = some 2 := by decide +kernel
theorem imX11_ways : Cond.instanceMethod yX11_ways ∈ Wg := inW6 (i := 5) (by decide +kernel) rfl
theorem seX11_ways : Cond.selects yX11_ways.cls yX11_ways yX11_ways ∈ Wg := inW6 (i := 6) (by decide +kernel) rfl
def mX11_drawn : MD := (yX11_drawn, cX11_drawn, 4, (some .long))
theorem mdX11_drawn : Md mX11_drawn := ⟨inW6 (i := 21) rfl rfl, inW1 (i := 1) (by decide +kernel) rfl, ⟨by decide +kernel, by decide +kernel⟩, by decide, by decide +kernel⟩
theorem npX11_drawn : (parseMethodDescriptor mX11_drawn.1.desc).map (fun d => d.parameters.length) = some 1 := by decide +kernel
theorem imX11_drawn : Cond.instanceMethod yX11_drawn ∈ Wg := inW6 (i := 19) (by decide +kernel) rfl
theorem seX11_drawn : Cond.selects yX11_drawn.cls yX11_drawn yX11_drawn ∈ Wg := inW6 (i := 20) (by decide +kernel) rfl
def mX11_evenly : MD := (yX11_evenly, cX11_evenly, 1, (some .int))
theorem mdX11_evenly : Md mX11_evenly := ⟨inW6 (i := 33) rfl rfl, inW1 (i := 1) (by decide +kernel) rfl, ⟨by decide +kernel, by decide +kernel⟩, by decide, by decide +kernel⟩
theorem npX11_evenly : (parseMethodDescriptor mX11_evenly.1.desc).map (fun d => d.parameters.length) = some 0 := by decide +kernel
theorem imX11_evenly : Cond.instanceMethod yX11_evenly ∈ Wg := inW6 (i := 31) (by decide +kernel) rfl
theorem seX11_evenly : Cond.selects yX11_evenly.cls yX11_evenly yX11_evenly ∈ Wg := inW6 (i := 32) (by decide +kernel) rfl
def mX11_swap : MD := (yX11_swap, cX11_swap, 5, (some .int))
theorem mdX11_swap : Md mX11_swap := ⟨inW6 (i := 37) rfl rfl, inW1 (i := 1) (by decide +kernel) rfl, ⟨by decide +kernel, by decide +kernel⟩, by decide, by decide +kernel⟩
theorem npX11_swap : (parseMethodDescriptor mX11_swap.1.desc).map (fun d => d.parameters.length) = some 4 := by decide +kernel
theorem imX11_swap : Cond.instanceMethod yX11_swap ∈ Wg := inW6 (i := 35) (by decide +kernel) rfl
theorem seX11_swap : Cond.selects yX11_swap.cls yX11_swap yX11_swap ∈ Wg := inW6 (i := 36) (by decide +kernel) rfl
def mX11_walk : MD := (yX11_walk, cX11_walk, 5, (some .int))
theorem mdX11_walk : Md mX11_walk := ⟨inW6 (i := 59) rfl rfl, inW1 (i := 1) (by decide +kernel) rfl, ⟨by decide +kernel, by decide +kernel⟩, by decide, by decide +kernel⟩
theorem npX11_walk : (parseMethodDescriptor mX11_walk.1.desc).map (fun d => d.parameters.length) = some 2 := by decide +kernel
theorem imX11_walk : Cond.instanceMethod yX11_walk ∈ Wg := inW6 (i := 57) (by decide +kernel) rfl
theorem seX11_walk : Cond.selects yX11_walk.cls yX11_walk yX11_walk ∈ Wg := inW6 (i := 58) (by decide +kernel) rfl
def mX11_undo : MD := (yX11_undo, cX11_undo, 1, (some .int))
theorem mdX11_undo : Md mX11_undo := ⟨inW6 (i := 87) rfl rfl, inW1 (i := 1) (by decide +kernel) rfl, ⟨by decide +kernel, by decide +kernel⟩, by decide, by decide +kernel⟩
theorem npX11_undo : (parseMethodDescriptor mX11_undo.1.desc).map (fun d => d.parameters.length) = some 0 := by decide +kernel
theorem imX11_undo : Cond.instanceMethod yX11_undo ∈ Wg := inW6 (i := 85) (by decide +kernel) rfl
theorem seX11_undo : Cond.selects yX11_undo.cls yX11_undo yX11_undo ∈ Wg := inW6 (i := 86) (by decide +kernel) rfl
def mX11_anew : MD := (yX11_anew, cX11_anew, 2, (some .int))
theorem mdX11_anew : Md mX11_anew := ⟨inW6 (i := 95) rfl rfl, inW1 (i := 1) (by decide +kernel) rfl, ⟨by decide +kernel, by decide +kernel⟩, by decide, by decide +kernel⟩
theorem npX11_anew : (parseMethodDescriptor mX11_anew.1.desc).map (fun d => d.parameters.length) = some 0 := by decide +kernel
theorem imX11_anew : Cond.instanceMethod yX11_anew ∈ Wg := inW6 (i := 93) (by decide +kernel) rfl
theorem seX11_anew : Cond.selects yX11_anew.cls yX11_anew yX11_anew ∈ Wg := inW6 (i := 94) (by decide +kernel) rfl
def mX11_hasStatistic : MD := (yX11_hasStatistic, cX11_hasStatistic, 2, (some .boolean))
theorem mdX11_hasStatistic : Md mX11_hasStatistic := ⟨inW5 (i := 6) rfl rfl, inW1 (i := 1) (by decide +kernel) rfl, ⟨by decide +kernel, by decide +kernel⟩, by decide, by decide +kernel⟩
theorem npX11_hasStatistic : (parseMethodDescriptor mX11_hasStatistic.1.desc).map (fun d => d.parameters.length) = some 1 := by decide +kernel
theorem imX11_hasStatistic : Cond.instanceMethod yX11_hasStatistic ∈ Wg := inW5 (i := 5) (by decide +kernel) rfl
theorem seX11_hasStatistic : Cond.selects yX11_hasStatistic.cls yX11_hasStatistic yX11_hasStatistic ∈ Wg := inWs (y := yX11_hasStatistic) (n := 8) (i := 29) (by decide +kernel)
def mX11_evenWords : MD := (yX11_evenWords, cX11_evenWords, 1, (some .long))
theorem mdX11_evenWords : Md mX11_evenWords := ⟨inW6 (i := 26) rfl rfl, inW1 (i := 1) (by decide +kernel) rfl, ⟨by decide +kernel, by decide +kernel⟩, by decide, by decide +kernel⟩
theorem npX11_evenWords : (parseMethodDescriptor mX11_evenWords.1.desc).map (fun d => d.parameters.length) = some 0 := by decide +kernel
theorem imX11_evenWords : Cond.instanceMethod yX11_evenWords ∈ Wg := inW6 (i := 25) (by decide +kernel) rfl
theorem seX11_evenWords : Cond.selects yX11_evenWords.cls yX11_evenWords yX11_evenWords ∈ Wg := inWs (y := yX11_evenWords) (n := 8) (i := 48) (by decide +kernel)
def mX11_rankNow : MD := (yX11_rankNow, cX11_rankNow, 1, (some .int))
theorem mdX11_rankNow : Md mX11_rankNow := ⟨inW5 (i := 222) rfl rfl, inW1 (i := 1) (by decide +kernel) rfl, ⟨by decide +kernel, by decide +kernel⟩, by decide, by decide +kernel⟩
theorem npX11_rankNow : (parseMethodDescriptor mX11_rankNow.1.desc).map (fun d => d.parameters.length) = some 0 := by decide +kernel
theorem imX11_rankNow : Cond.instanceMethod yX11_rankNow ∈ Wg := inW5 (i := 221) (by decide +kernel) rfl
theorem seX11_rankNow : Cond.selects yX11_rankNow.cls yX11_rankNow yX11_rankNow ∈ Wg := inWs (y := yX11_rankNow) (n := 8) (i := 46) (by decide +kernel)
def mX11_refusalOfList : MD := (yX11_refusalOfList, cX11_refusalOfList, 1, (some .int))
theorem mdX11_refusalOfList : Md mX11_refusalOfList := ⟨inW5 (i := 89) rfl rfl, inW1 (i := 1) (by decide +kernel) rfl, ⟨by decide +kernel, by decide +kernel⟩, by decide, by decide +kernel⟩
theorem npX11_refusalOfList : (parseMethodDescriptor mX11_refusalOfList.1.desc).map (fun d => d.parameters.length) = some 0 := by decide +kernel
theorem imX11_refusalOfList : Cond.instanceMethod yX11_refusalOfList ∈ Wg := inW5 (i := 88) (by decide +kernel) rfl
theorem seX11_refusalOfList : Cond.selects yX11_refusalOfList.cls yX11_refusalOfList yX11_refusalOfList ∈ Wg := inWs (y := yX11_refusalOfList) (n := 8) (i := 32) (by decide +kernel)
def mX11_refusalOfRank : MD := (yX11_refusalOfRank, cX11_refusalOfRank, 3, (some .int))
theorem mdX11_refusalOfRank : Md mX11_refusalOfRank := ⟨inW5 (i := 189) rfl rfl, inW1 (i := 1) (by decide +kernel) rfl, ⟨by decide +kernel, by decide +kernel⟩, by decide, by decide +kernel⟩
theorem npX11_refusalOfRank : (parseMethodDescriptor mX11_refusalOfRank.1.desc).map (fun d => d.parameters.length) = some 1 := by decide +kernel
theorem imX11_refusalOfRank : Cond.instanceMethod yX11_refusalOfRank ∈ Wg := inW5 (i := 188) (by decide +kernel) rfl
theorem seX11_refusalOfRank : Cond.selects yX11_refusalOfRank.cls yX11_refusalOfRank yX11_refusalOfRank ∈ Wg := inWs (y := yX11_refusalOfRank) (n := 8) (i := 44) (by decide +kernel)
def mX12_in : MD := (yX12_in, cX12_in, 6, (some .boolean))
theorem mdX12_in : Md mX12_in := ⟨inW6 (i := 233) rfl rfl, inW1 (i := 11) (by decide +kernel) rfl, ⟨by decide +kernel, by decide +kernel⟩, by decide, by decide +kernel⟩
theorem npX12_in : (parseMethodDescriptor mX12_in.1.desc).map (fun d => d.parameters.length) = some 3 := by decide +kernel
theorem smX12_in : Cond.static yX12_in ∈ Wg := inW6 (i := 232) (by decide +kernel) rfl
def mX12_has : MD := (yX12_has, cX12_has, 2, (some .boolean))
theorem mdX12_has : Md mX12_has := ⟨inW7 (i := 49) rfl rfl, inW1 (i := 11) (by decide +kernel) rfl, ⟨by decide +kernel, by decide +kernel⟩, by decide, by decide +kernel⟩
theorem npX12_has : (parseMethodDescriptor mX12_has.1.desc).map (fun d => d.parameters.length) = some 2 := by decide +kernel
theorem smX12_has : Cond.static yX12_has ∈ Wg := inW7 (i := 48) (by decide +kernel) rfl
def mX12_bitsOf : MD := (yX12_bitsOf, cX12_bitsOf, 3, (some .int))
theorem mdX12_bitsOf : Md mX12_bitsOf := ⟨inW7 (i := 68) rfl rfl, inW1 (i := 11) (by decide +kernel) rfl, ⟨by decide +kernel, by decide +kernel⟩, by decide, by decide +kernel⟩
theorem npX12_bitsOf : (parseMethodDescriptor mX12_bitsOf.1.desc).map (fun d => d.parameters.length) = some 1 := by decide +kernel
theorem smX12_bitsOf : Cond.static yX12_bitsOf ∈ Wg := inW7 (i := 67) (by decide +kernel) rfl
def mX12_common : MD := (yX12_common, cX12_common, 10, (some .long))
theorem mdX12_common : Md mX12_common := ⟨inW7 (i := 211) rfl rfl, inW1 (i := 11) (by decide +kernel) rfl, ⟨by decide +kernel, by decide +kernel⟩, by decide, by decide +kernel⟩
theorem npX12_common : (parseMethodDescriptor mX12_common.1.desc).map (fun d => d.parameters.length) = some 2 := by decide +kernel
theorem smX12_common : Cond.static yX12_common ∈ Wg := inW7 (i := 210) (by decide +kernel) rfl
def mX12_init : MD := (yX12_init, cX12_init, 1, none)
theorem mdX12_init : Md mX12_init := ⟨inW6 (i := 100) rfl rfl, inW1 (i := 11) (by decide +kernel) rfl, ⟨by decide +kernel, by decide +kernel⟩, by decide, by decide +kernel⟩
theorem npX12_init : (parseMethodDescriptor mX12_init.1.desc).map (fun d => d.parameters.length) = some 0 := by decide +kernel
theorem imX12_init : Cond.instanceMethod yX12_init ∈ Wg := inW6 (i := 99) (by decide +kernel) rfl
def mX12_feed : MD := (yX12_feed, cX12_feed, 8, (some .int))
theorem mdX12_feed : Md mX12_feed := ⟨inW6 (i := 226) rfl rfl, inW1 (i := 11) (by decide +kernel) rfl, ⟨by decide +kernel, by decide +kernel⟩, by decide, by decide +kernel⟩
theorem npX12_feed : (parseMethodDescriptor mX12_feed.1.desc).map (fun d => d.parameters.length) = some 5 := by decide +kernel
theorem imX12_feed : Cond.instanceMethod yX12_feed ∈ Wg := inW6 (i := 224) (by decide +kernel) rfl
theorem seX12_feed : Cond.selects yX12_feed.cls yX12_feed yX12_feed ∈ Wg := inW6 (i := 225) (by decide +kernel) rfl
def mX12_end : MD := (yX12_end, cX12_end, 2, (some .int))
theorem mdX12_end : Md mX12_end := ⟨inW6 (i := 230) rfl rfl, inW1 (i := 11) (by decide +kernel) rfl, ⟨by decide +kernel, by decide +kernel⟩, by decide, by decide +kernel⟩
theorem npX12_end : (parseMethodDescriptor mX12_end.1.desc).map (fun d => d.parameters.length) = some 1 := by decide +kernel
theorem imX12_end : Cond.instanceMethod yX12_end ∈ Wg := inW6 (i := 228) (by decide +kernel) rfl
theorem seX12_end : Cond.selects yX12_end.cls yX12_end yX12_end ∈ Wg := inW6 (i := 229) (by decide +kernel) rfl
def mX12_isAt : MD := (yX12_isAt, cX12_isAt, 3, (some .boolean))
theorem mdX12_isAt : Md mX12_isAt := ⟨inW7 (i := 5) rfl rfl, inW1 (i := 11) (by decide +kernel) rfl, ⟨by decide +kernel, by decide +kernel⟩, by decide, by decide +kernel⟩
theorem npX12_isAt : (parseMethodDescriptor mX12_isAt.1.desc).map (fun d => d.parameters.length) = some 2 := by decide +kernel
theorem imX12_isAt : Cond.instanceMethod yX12_isAt ∈ Wg := inW7 (i := 4) (by decide +kernel) rfl
theorem seX12_isAt : Cond.selects yX12_isAt.cls yX12_isAt yX12_isAt ∈ Wg := inWs (y := yX12_isAt) (n := 40) (i := 50) (by decide +kernel)
def mX12_next : MD := (yX12_next, cX12_next, 1, none)
theorem mdX12_next : Md mX12_next := ⟨inW7 (i := 1) rfl rfl, inW1 (i := 11) (by decide +kernel) rfl, ⟨by decide +kernel, by decide +kernel⟩, by decide, by decide +kernel⟩
theorem npX12_next : (parseMethodDescriptor mX12_next.1.desc).map (fun d => d.parameters.length) = some 0 := by decide +kernel
theorem imX12_next : Cond.instanceMethod yX12_next ∈ Wg := inW7 (i := 0) (by decide +kernel) rfl
theorem seX12_next : Cond.selects yX12_next.cls yX12_next yX12_next ∈ Wg := inWs (y := yX12_next) (n := 40) (i := 49) (by decide +kernel)
def mX12_faults : MD := (yX12_faults, cX12_faults, 2, none)
theorem mdX12_faults : Md mX12_faults := ⟨inW7 (i := 26) rfl rfl, inW1 (i := 11) (by decide +kernel) rfl, ⟨by decide +kernel, by decide +kernel⟩, by decide, by decide +kernel⟩
theorem npX12_faults : (parseMethodDescriptor mX12_faults.1.desc).map (fun d => d.parameters.length) = some 1 := by decide +kernel
theorem imX12_faults : Cond.instanceMethod yX12_faults ∈ Wg := inW7 (i := 25) (by decide +kernel) rfl
theorem seX12_faults : Cond.selects yX12_faults.cls yX12_faults yX12_faults ∈ Wg := inWs (y := yX12_faults) (n := 40) (i := 54) (by decide +kernel)
def mX12_isWord : MD := (yX12_isWord, cX12_isWord, 3, (some .boolean))
theorem mdX12_isWord : Md mX12_isWord := ⟨inW7 (i := 16) rfl rfl, inW1 (i := 11) (by decide +kernel) rfl, ⟨by decide +kernel, by decide +kernel⟩, by decide, by decide +kernel⟩
theorem npX12_isWord : (parseMethodDescriptor mX12_isWord.1.desc).map (fun d => d.parameters.length) = some 1 := by decide +kernel
theorem imX12_isWord : Cond.instanceMethod yX12_isWord ∈ Wg := inW7 (i := 15) (by decide +kernel) rfl
theorem seX12_isWord : Cond.selects yX12_isWord.cls yX12_isWord yX12_isWord ∈ Wg := inWs (y := yX12_isWord) (n := 40) (i := 52) (by decide +kernel)
def mX12_passes : MD := (yX12_passes, cX12_passes, 2, none)
theorem mdX12_passes : Md mX12_passes := ⟨inW7 (i := 22) rfl rfl, inW1 (i := 11) (by decide +kernel) rfl, ⟨by decide +kernel, by decide +kernel⟩, by decide, by decide +kernel⟩
theorem npX12_passes : (parseMethodDescriptor mX12_passes.1.desc).map (fun d => d.parameters.length) = some 1 := by decide +kernel
theorem imX12_passes : Cond.instanceMethod yX12_passes ∈ Wg := inW7 (i := 21) (by decide +kernel) rfl
theorem seX12_passes : Cond.selects yX12_passes.cls yX12_passes yX12_passes ∈ Wg := inWs (y := yX12_passes) (n := 40) (i := 53) (by decide +kernel)
def mX12_reads : MD := (yX12_reads, cX12_reads, 4, (some .int))
theorem mdX12_reads : Md mX12_reads := ⟨inW7 (i := 31) rfl rfl, inW1 (i := 11) (by decide +kernel) rfl, ⟨by decide +kernel, by decide +kernel⟩, by decide, by decide +kernel⟩
theorem npX12_reads : (parseMethodDescriptor mX12_reads.1.desc).map (fun d => d.parameters.length) = some 2 := by decide +kernel
theorem imX12_reads : Cond.instanceMethod yX12_reads ∈ Wg := inW7 (i := 30) (by decide +kernel) rfl
theorem seX12_reads : Cond.selects yX12_reads.cls yX12_reads yX12_reads ∈ Wg := inWs (y := yX12_reads) (n := 40) (i := 55) (by decide +kernel)
def mX12_place : MD := (yX12_place, cX12_place, 3, (some .int))
theorem mdX12_place : Md mX12_place := ⟨inW7 (i := 41) rfl rfl, inW1 (i := 11) (by decide +kernel) rfl, ⟨by decide +kernel, by decide +kernel⟩, by decide, by decide +kernel⟩
theorem npX12_place : (parseMethodDescriptor mX12_place.1.desc).map (fun d => d.parameters.length) = some 2 := by decide +kernel
theorem imX12_place : Cond.instanceMethod yX12_place ∈ Wg := inW7 (i := 40) (by decide +kernel) rfl
theorem seX12_place : Cond.selects yX12_place.cls yX12_place yX12_place ∈ Wg := inWs (y := yX12_place) (n := 40) (i := 57) (by decide +kernel)
def mX12_readsTable : MD := (yX12_readsTable, cX12_readsTable, 1, none)
theorem mdX12_readsTable : Md mX12_readsTable := ⟨inW7 (i := 11) rfl rfl, inW1 (i := 11) (by decide +kernel) rfl, ⟨by decide +kernel, by decide +kernel⟩, by decide, by decide +kernel⟩
theorem npX12_readsTable : (parseMethodDescriptor mX12_readsTable.1.desc).map (fun d => d.parameters.length) = some 0 := by decide +kernel
theorem imX12_readsTable : Cond.instanceMethod yX12_readsTable ∈ Wg := inW7 (i := 10) (by decide +kernel) rfl
theorem seX12_readsTable : Cond.selects yX12_readsTable.cls yX12_readsTable yX12_readsTable ∈ Wg := inWs (y := yX12_readsTable) (n := 40) (i := 51) (by decide +kernel)
def mX12_readsRow : MD := (yX12_readsRow, cX12_readsRow, 4, none)
theorem mdX12_readsRow : Md mX12_readsRow := ⟨inW7 (i := 36) rfl rfl, inW1 (i := 11) (by decide +kernel) rfl, ⟨by decide +kernel, by decide +kernel⟩, by decide, by decide +kernel⟩
theorem npX12_readsRow : (parseMethodDescriptor mX12_readsRow.1.desc).map (fun d => d.parameters.length) = some 1 := by decide +kernel
theorem imX12_readsRow : Cond.instanceMethod yX12_readsRow ∈ Wg := inW7 (i := 35) (by decide +kernel) rfl
theorem seX12_readsRow : Cond.selects yX12_readsRow.cls yX12_readsRow yX12_readsRow ∈ Wg := inWs (y := yX12_readsRow) (n := 40) (i := 56) (by decide +kernel)
def mX12_readsHole : MD := (yX12_readsHole, cX12_readsHole, 3, none)
theorem mdX12_readsHole : Md mX12_readsHole := ⟨inW7 (i := 45) rfl rfl, inW1 (i := 11) (by decide +kernel) rfl, ⟨by decide +kernel, by decide +kernel⟩, by decide, by decide +kernel⟩
theorem npX12_readsHole : (parseMethodDescriptor mX12_readsHole.1.desc).map (fun d => d.parameters.length) = some 0 := by decide +kernel
theorem imX12_readsHole : Cond.instanceMethod yX12_readsHole ∈ Wg := inW7 (i := 44) (by decide +kernel) rfl
theorem seX12_readsHole : Cond.selects yX12_readsHole.cls yX12_readsHole yX12_readsHole ∈ Wg := inWs (y := yX12_readsHole) (n := 40) (i := 58) (by decide +kernel)
def mX12_table : MD := (yX12_table, cX12_table, 3, (some .int))
theorem mdX12_table : Md mX12_table := ⟨inW6 (i := 237) rfl rfl, inW1 (i := 11) (by decide +kernel) rfl, ⟨by decide +kernel, by decide +kernel⟩, by decide, by decide +kernel⟩
theorem npX12_table : (parseMethodDescriptor mX12_table.1.desc).map (fun d => d.parameters.length) = some 0 := by decide +kernel
theorem imX12_table : Cond.instanceMethod yX12_table ∈ Wg := inW6 (i := 235) (by decide +kernel) rfl
theorem seX12_table : Cond.selects yX12_table.cls yX12_table yX12_table ∈ Wg := inW6 (i := 236) (by decide +kernel) rfl
def mX12_fault : MD := (yX12_fault, cX12_fault, 2, (some .int))
theorem mdX12_fault : Md mX12_fault := ⟨inW7 (i := 53) rfl rfl, inW1 (i := 11) (by decide +kernel) rfl, ⟨by decide +kernel, by decide +kernel⟩, by decide, by decide +kernel⟩
theorem npX12_fault : (parseMethodDescriptor mX12_fault.1.desc).map (fun d => d.parameters.length) = some 1 := by decide +kernel
theorem imX12_fault : Cond.instanceMethod yX12_fault ∈ Wg := inW7 (i := 51) (by decide +kernel) rfl
theorem seX12_fault : Cond.selects yX12_fault.cls yX12_fault yX12_fault ∈ Wg := inW7 (i := 52) (by decide +kernel) rfl
def mX12_many : MD := (yX12_many, cX12_many, 1, (some .int))
theorem mdX12_many : Md mX12_many := ⟨inW7 (i := 65) rfl rfl, inW1 (i := 11) (by decide +kernel) rfl, ⟨by decide +kernel, by decide +kernel⟩, by decide, by decide +kernel⟩
theorem npX12_many : (parseMethodDescriptor mX12_many.1.desc).map (fun d => d.parameters.length) = some 0 := by decide +kernel
theorem imX12_many : Cond.instanceMethod yX12_many ∈ Wg := inW7 (i := 64) (by decide +kernel) rfl
theorem seX12_many : Cond.selects yX12_many.cls yX12_many yX12_many ∈ Wg := inWs (y := yX12_many) (n := 40) (i := 60) (by decide +kernel)
def mX12_totalNow : MD := (yX12_totalNow, cX12_totalNow, 3, (some .int))
theorem mdX12_totalNow : Md mX12_totalNow := ⟨inW7 (i := 61) rfl rfl, inW1 (i := 11) (by decide +kernel) rfl, ⟨by decide +kernel, by decide +kernel⟩, by decide, by decide +kernel⟩
theorem npX12_totalNow : (parseMethodDescriptor mX12_totalNow.1.desc).map (fun d => d.parameters.length) = some 0 := by decide +kernel
theorem imX12_totalNow : Cond.instanceMethod yX12_totalNow ∈ Wg := inW7 (i := 60) (by decide +kernel) rfl
theorem seX12_totalNow : Cond.selects yX12_totalNow.cls yX12_totalNow yX12_totalNow ∈ Wg := inWs (y := yX12_totalNow) (n := 40) (i := 59) (by decide +kernel)
def mX12_count : MD := (yX12_count, cX12_count, 2, (some .int))
theorem mdX12_count : Md mX12_count := ⟨inW7 (i := 57) rfl rfl, inW1 (i := 11) (by decide +kernel) rfl, ⟨by decide +kernel, by decide +kernel⟩, by decide, by decide +kernel⟩
theorem npX12_count : (parseMethodDescriptor mX12_count.1.desc).map (fun d => d.parameters.length) = some 1 := by decide +kernel
theorem imX12_count : Cond.instanceMethod yX12_count ∈ Wg := inW7 (i := 55) (by decide +kernel) rfl
theorem seX12_count : Cond.selects yX12_count.cls yX12_count yX12_count ∈ Wg := inW7 (i := 56) (by decide +kernel) rfl
def mX12_isCell : MD := (yX12_isCell, cX12_isCell, 3, (some .boolean))
theorem mdX12_isCell : Md mX12_isCell := ⟨inW7 (i := 76) rfl rfl, inW1 (i := 11) (by decide +kernel) rfl, ⟨by decide +kernel, by decide +kernel⟩, by decide, by decide +kernel⟩
theorem npX12_isCell : (parseMethodDescriptor mX12_isCell.1.desc).map (fun d => d.parameters.length) = some 2 := by decide +kernel
theorem imX12_isCell : Cond.instanceMethod yX12_isCell ∈ Wg := inW7 (i := 75) (by decide +kernel) rfl
theorem seX12_isCell : Cond.selects yX12_isCell.cls yX12_isCell yX12_isCell ∈ Wg := inWs (y := yX12_isCell) (n := 40) (i := 61) (by decide +kernel)
def mX12_sumOfRow : MD := (yX12_sumOfRow, cX12_sumOfRow, 4, (some .int))
theorem mdX12_sumOfRow : Md mX12_sumOfRow := ⟨inW7 (i := 88) rfl rfl, inW1 (i := 11) (by decide +kernel) rfl, ⟨by decide +kernel, by decide +kernel⟩, by decide, by decide +kernel⟩
theorem npX12_sumOfRow : (parseMethodDescriptor mX12_sumOfRow.1.desc).map (fun d => d.parameters.length) = some 1 := by decide +kernel
theorem imX12_sumOfRow : Cond.instanceMethod yX12_sumOfRow ∈ Wg := inW7 (i := 87) (by decide +kernel) rfl
theorem seX12_sumOfRow : Cond.selects yX12_sumOfRow.cls yX12_sumOfRow yX12_sumOfRow ∈ Wg := inWs (y := yX12_sumOfRow) (n := 40) (i := 62) (by decide +kernel)
def mX12_sumOfColumn : MD := (yX12_sumOfColumn, cX12_sumOfColumn, 4, (some .int))
theorem mdX12_sumOfColumn : Md mX12_sumOfColumn := ⟨inW7 (i := 96) rfl rfl, inW1 (i := 11) (by decide +kernel) rfl, ⟨by decide +kernel, by decide +kernel⟩, by decide, by decide +kernel⟩
theorem npX12_sumOfColumn : (parseMethodDescriptor mX12_sumOfColumn.1.desc).map (fun d => d.parameters.length) = some 1 := by decide +kernel
theorem imX12_sumOfColumn : Cond.instanceMethod yX12_sumOfColumn ∈ Wg := inW7 (i := 95) (by decide +kernel) rfl
theorem seX12_sumOfColumn : Cond.selects yX12_sumOfColumn.cls yX12_sumOfColumn yX12_sumOfColumn ∈ Wg := inWs (y := yX12_sumOfColumn) (n := 40) (i := 63) (by decide +kernel)
def mX12_cell : MD := (yX12_cell, cX12_cell, 3, (some .int))
theorem mdX12_cell : Md mX12_cell := ⟨inW7 (i := 72) rfl rfl, inW1 (i := 11) (by decide +kernel) rfl, ⟨by decide +kernel, by decide +kernel⟩, by decide, by decide +kernel⟩
theorem npX12_cell : (parseMethodDescriptor mX12_cell.1.desc).map (fun d => d.parameters.length) = some 2 := by decide +kernel
theorem imX12_cell : Cond.instanceMethod yX12_cell ∈ Wg := inW7 (i := 70) (by decide +kernel) rfl
theorem seX12_cell : Cond.selects yX12_cell.cls yX12_cell yX12_cell ∈ Wg := inW7 (i := 71) (by decide +kernel) rfl
def mX12_hole : MD := (yX12_hole, cX12_hole, 3, (some .int))
theorem mdX12_hole : Md mX12_hole := ⟨inW7 (i := 80) rfl rfl, inW1 (i := 11) (by decide +kernel) rfl, ⟨by decide +kernel, by decide +kernel⟩, by decide, by decide +kernel⟩
theorem npX12_hole : (parseMethodDescriptor mX12_hole.1.desc).map (fun d => d.parameters.length) = some 2 := by decide +kernel
theorem imX12_hole : Cond.instanceMethod yX12_hole ∈ Wg := inW7 (i := 78) (by decide +kernel) rfl
theorem seX12_hole : Cond.selects yX12_hole.cls yX12_hole yX12_hole ∈ Wg := inW7 (i := 79) (by decide +kernel) rfl
def mX12_row : MD := (yX12_row, cX12_row, 2, (some .int))
theorem mdX12_row : Md mX12_row := ⟨inW7 (i := 84) rfl rfl, inW1 (i := 11) (by decide +kernel) rfl, ⟨by decide +kernel, by decide +kernel⟩, by decide, by decide +kernel⟩
theorem npX12_row : (parseMethodDescriptor mX12_row.1.desc).map (fun d => d.parameters.length) = some 1 := by decide +kernel
theorem imX12_row : Cond.instanceMethod yX12_row ∈ Wg := inW7 (i := 82) (by decide +kernel) rfl
theorem seX12_row : Cond.selects yX12_row.cls yX12_row yX12_row ∈ Wg := inW7 (i := 83) (by decide +kernel) rfl
def mX12_column : MD := (yX12_column, cX12_column, 2, (some .int))
theorem mdX12_column : Md mX12_column := ⟨inW7 (i := 92) rfl rfl, inW1 (i := 11) (by decide +kernel) rfl, ⟨by decide +kernel, by decide +kernel⟩, by decide, by decide +kernel⟩
theorem npX12_column : (parseMethodDescriptor mX12_column.1.desc).map (fun d => d.parameters.length) = some 1 := by decide +kernel
theorem imX12_column : Cond.instanceMethod yX12_column ∈ Wg := inW7 (i := 90) (by decide +kernel) rfl
theorem seX12_column : Cond.selects yX12_column.cls yX12_column yX12_column ∈ Wg := inW7 (i := 91) (by decide +kernel) rfl
def mX12_goesAll : MD := (yX12_goesAll, cX12_goesAll, 3, none)
theorem mdX12_goesAll : Md mX12_goesAll := ⟨inW7 (i := 112) rfl rfl, inW1 (i := 11) (by decide +kernel) rfl, ⟨by decide +kernel, by decide +kernel⟩, by decide, by decide +kernel⟩
theorem npX12_goesAll : (parseMethodDescriptor mX12_goesAll.1.desc).map (fun d => d.parameters.length) = some 1 := by decide +kernel
theorem imX12_goesAll : Cond.instanceMethod yX12_goesAll ∈ Wg := inW7 (i := 111) (by decide +kernel) rfl
theorem seX12_goesAll : Cond.selects yX12_goesAll.cls yX12_goesAll yX12_goesAll ∈ Wg := inWs (y := yX12_goesAll) (n := 40) (i := 66) (by decide +kernel)
def mX12_hasPlace : MD := (yX12_hasPlace, cX12_hasPlace, 6, (some .boolean))
theorem mdX12_hasPlace : Md mX12_hasPlace := ⟨inW7 (i := 163) rfl rfl, inW1 (i := 11) (by decide +kernel) rfl, ⟨by decide +kernel, by decide +kernel⟩, by decide, by decide +kernel⟩
theorem npX12_hasPlace : (parseMethodDescriptor mX12_hasPlace.1.desc).map (fun d => d.parameters.length) = some 3 := by decide +kernel
theorem imX12_hasPlace : Cond.instanceMethod yX12_hasPlace ∈ Wg := inW7 (i := 162) (by decide +kernel) rfl
theorem seX12_hasPlace : Cond.selects yX12_hasPlace.cls yX12_hasPlace yX12_hasPlace ∈ Wg := inWs (y := yX12_hasPlace) (n := 40) (i := 77) (by decide +kernel)
def mX12_goes : MD := (yX12_goes, cX12_goes, 8, none)
theorem mdX12_goes : Md mX12_goes := ⟨inW7 (i := 117) rfl rfl, inW1 (i := 11) (by decide +kernel) rfl, ⟨by decide +kernel, by decide +kernel⟩, by decide, by decide +kernel⟩
theorem npX12_goes : (parseMethodDescriptor mX12_goes.1.desc).map (fun d => d.parameters.length) = some 1 := by decide +kernel
theorem imX12_goes : Cond.instanceMethod yX12_goes ∈ Wg := inW7 (i := 116) (by decide +kernel) rfl
theorem seX12_goes : Cond.selects yX12_goes.cls yX12_goes yX12_goes ∈ Wg := inWs (y := yX12_goes) (n := 40) (i := 67) (by decide +kernel)
def mX12_visits : MD := (yX12_visits, cX12_visits, 1, none)
theorem mdX12_visits : Md mX12_visits := ⟨inW7 (i := 121) rfl rfl, inW1 (i := 11) (by decide +kernel) rfl, ⟨by decide +kernel, by decide +kernel⟩, by decide, by decide +kernel⟩
theorem npX12_visits : (parseMethodDescriptor mX12_visits.1.desc).map (fun d => d.parameters.length) = some 0 := by decide +kernel
theorem imX12_visits : Cond.instanceMethod yX12_visits ∈ Wg := inW7 (i := 120) (by decide +kernel) rfl
theorem seX12_visits : Cond.selects yX12_visits.cls yX12_visits yX12_visits ∈ Wg := inWs (y := yX12_visits) (n := 40) (i := 68) (by decide +kernel)
def mX12_finds : MD := (yX12_finds, cX12_finds, 3, none)
theorem mdX12_finds : Md mX12_finds := ⟨inW7 (i := 125) rfl rfl, inW1 (i := 11) (by decide +kernel) rfl, ⟨by decide +kernel, by decide +kernel⟩, by decide, by decide +kernel⟩
theorem npX12_finds : (parseMethodDescriptor mX12_finds.1.desc).map (fun d => d.parameters.length) = some 0 := by decide +kernel
theorem imX12_finds : Cond.instanceMethod yX12_finds ∈ Wg := inW7 (i := 124) (by decide +kernel) rfl
theorem seX12_finds : Cond.selects yX12_finds.cls yX12_finds yX12_finds ∈ Wg := inWs (y := yX12_finds) (n := 40) (i := 69) (by decide +kernel)
def mX12_tallies : MD := (yX12_tallies, cX12_tallies, 2, none)
theorem mdX12_tallies : Md mX12_tallies := ⟨inW7 (i := 129) rfl rfl, inW1 (i := 11) (by decide +kernel) rfl, ⟨by decide +kernel, by decide +kernel⟩, by decide, by decide +kernel⟩
theorem npX12_tallies : (parseMethodDescriptor mX12_tallies.1.desc).map (fun d => d.parameters.length) = some 0 := by decide +kernel
theorem imX12_tallies : Cond.instanceMethod yX12_tallies ∈ Wg := inW7 (i := 128) (by decide +kernel) rfl
theorem seX12_tallies : Cond.selects yX12_tallies.cls yX12_tallies yX12_tallies ∈ Wg := inWs (y := yX12_tallies) (n := 40) (i := 70) (by decide +kernel)
def mX12_weighs : MD := (yX12_weighs, cX12_weighs, 3, none)
theorem mdX12_weighs : Md mX12_weighs := ⟨inW7 (i := 133) rfl rfl, inW1 (i := 11) (by decide +kernel) rfl, ⟨by decide +kernel, by decide +kernel⟩, by decide, by decide +kernel⟩
theorem npX12_weighs : (parseMethodDescriptor mX12_weighs.1.desc).map (fun d => d.parameters.length) = some 0 := by decide +kernel
theorem imX12_weighs : Cond.instanceMethod yX12_weighs ∈ Wg := inW7 (i := 132) (by decide +kernel) rfl
theorem seX12_weighs : Cond.selects yX12_weighs.cls yX12_weighs yX12_weighs ∈ Wg := inWs (y := yX12_weighs) (n := 40) (i := 71) (by decide +kernel)
def mX12_measures : MD := (yX12_measures, cX12_measures, 6, none)
theorem mdX12_measures : Md mX12_measures := ⟨inW7 (i := 144) rfl rfl, inW1 (i := 11) (by decide +kernel) rfl, ⟨by decide +kernel, by decide +kernel⟩, by decide, by decide +kernel⟩
theorem npX12_measures : (parseMethodDescriptor mX12_measures.1.desc).map (fun d => d.parameters.length) = some 0 := by decide +kernel
theorem imX12_measures : Cond.instanceMethod yX12_measures ∈ Wg := inW7 (i := 143) (by decide +kernel) rfl
theorem seX12_measures : Cond.selects yX12_measures.cls yX12_measures yX12_measures ∈ Wg := inWs (y := yX12_measures) (n := 40) (i := 73) (by decide +kernel)
def mX12_lists : MD := (yX12_lists, cX12_lists, 2, none)
theorem mdX12_lists : Md mX12_lists := ⟨inW7 (i := 158) rfl rfl, inW1 (i := 11) (by decide +kernel) rfl, ⟨by decide +kernel, by decide +kernel⟩, by decide, by decide +kernel⟩
theorem npX12_lists : (parseMethodDescriptor mX12_lists.1.desc).map (fun d => d.parameters.length) = some 0 := by decide +kernel
theorem imX12_lists : Cond.instanceMethod yX12_lists ∈ Wg := inW7 (i := 157) (by decide +kernel) rfl
theorem seX12_lists : Cond.selects yX12_lists.cls yX12_lists yX12_lists ∈ Wg := inWs (y := yX12_lists) (n := 40) (i := 76) (by decide +kernel)
def mX12_waysOf : MD := (yX12_waysOf, cX12_waysOf, 5, (some .long))
theorem mdX12_waysOf : Md mX12_waysOf := ⟨inW7 (i := 140) rfl rfl, inW1 (i := 11) (by decide +kernel) rfl, ⟨by decide +kernel, by decide +kernel⟩, by decide, by decide +kernel⟩
theorem npX12_waysOf : (parseMethodDescriptor mX12_waysOf.1.desc).map (fun d => d.parameters.length) = some 2 := by decide +kernel
theorem smX12_waysOf : Cond.static yX12_waysOf ∈ Wg := inW7 (i := 139) (by decide +kernel) rfl
def mX12_weightOf : MD := (yX12_weightOf, cX12_weightOf, 6, (some .long))
theorem mdX12_weightOf : Md mX12_weightOf := ⟨inW7 (i := 137) rfl rfl, inW1 (i := 11) (by decide +kernel) rfl, ⟨by decide +kernel, by decide +kernel⟩, by decide, by decide +kernel⟩
theorem npX12_weightOf : (parseMethodDescriptor mX12_weightOf.1.desc).map (fun d => d.parameters.length) = some 0 := by decide +kernel
theorem imX12_weightOf : Cond.instanceMethod yX12_weightOf ∈ Wg := inW7 (i := 136) (by decide +kernel) rfl
theorem seX12_weightOf : Cond.selects yX12_weightOf.cls yX12_weightOf yX12_weightOf ∈ Wg := inWs (y := yX12_weightOf) (n := 40) (i := 72) (by decide +kernel)
def mX12_measureOf : MD := (yX12_measureOf, cX12_measureOf, 9, (some .long))
theorem mdX12_measureOf : Md mX12_measureOf := ⟨inW7 (i := 148) rfl rfl, inW1 (i := 11) (by decide +kernel) rfl, ⟨by decide +kernel, by decide +kernel⟩, by decide, by decide +kernel⟩
theorem npX12_measureOf : (parseMethodDescriptor mX12_measureOf.1.desc).map (fun d => d.parameters.length) = some 1 := by decide +kernel
theorem imX12_measureOf : Cond.instanceMethod yX12_measureOf ∈ Wg := inW7 (i := 147) (by decide +kernel) rfl
theorem seX12_measureOf : Cond.selects yX12_measureOf.cls yX12_measureOf yX12_measureOf ∈ Wg := inWs (y := yX12_measureOf) (n := 40) (i := 74) (by decide +kernel)
def mX12_product : MD := (yX12_product, cX12_product, 4, (some .long))
theorem mdX12_product : Md mX12_product := ⟨inW7 (i := 152) rfl rfl, inW1 (i := 11) (by decide +kernel) rfl, ⟨by decide +kernel, by decide +kernel⟩, by decide, by decide +kernel⟩
theorem npX12_product : (parseMethodDescriptor mX12_product.1.desc).map (fun d => d.parameters.length) = some 0 := by decide +kernel
theorem imX12_product : Cond.instanceMethod yX12_product ∈ Wg := inW7 (i := 151) (by decide +kernel) rfl
theorem seX12_product : Cond.selects yX12_product.cls yX12_product yX12_product ∈ Wg := inWs (y := yX12_product) (n := 40) (i := 75) (by decide +kernel)
def mX12_laysNow : MD := (yX12_laysNow, cX12_laysNow, 2, none)
theorem mdX12_laysNow : Md mX12_laysNow := ⟨inW7 (i := 219) rfl rfl, inW1 (i := 11) (by decide +kernel) rfl, ⟨by decide +kernel, by decide +kernel⟩, by decide, by decide +kernel⟩
theorem npX12_laysNow : (parseMethodDescriptor mX12_laysNow.1.desc).map (fun d => d.parameters.length) = some 0 := by decide +kernel
theorem imX12_laysNow : Cond.instanceMethod yX12_laysNow ∈ Wg := inW7 (i := 218) (by decide +kernel) rfl
theorem seX12_laysNow : Cond.selects yX12_laysNow.cls yX12_laysNow yX12_laysNow ∈ Wg := inWs (y := yX12_laysNow) (n := 40) (i := 81) (by decide +kernel)
def mX12_is : MD := (yX12_is, cX12_is, 1, (some .boolean))
theorem mdX12_is : Md mX12_is := ⟨inW7 (i := 104) rfl rfl, inW1 (i := 11) (by decide +kernel) rfl, ⟨by decide +kernel, by decide +kernel⟩, by decide, by decide +kernel⟩
theorem npX12_is : (parseMethodDescriptor mX12_is.1.desc).map (fun d => d.parameters.length) = some 0 := by decide +kernel
theorem imX12_is : Cond.instanceMethod yX12_is ∈ Wg := inW7 (i := 103) (by decide +kernel) rfl
theorem seX12_is : Cond.selects yX12_is.cls yX12_is yX12_is ∈ Wg := inWs (y := yX12_is) (n := 40) (i := 64) (by decide +kernel)
def mX12_tablesOf : MD := (yX12_tablesOf, cX12_tablesOf, 1, (some .long))
theorem mdX12_tablesOf : Md mX12_tablesOf := ⟨inW7 (i := 108) rfl rfl, inW1 (i := 11) (by decide +kernel) rfl, ⟨by decide +kernel, by decide +kernel⟩, by decide, by decide +kernel⟩
theorem npX12_tablesOf : (parseMethodDescriptor mX12_tablesOf.1.desc).map (fun d => d.parameters.length) = some 0 := by decide +kernel
theorem imX12_tablesOf : Cond.instanceMethod yX12_tablesOf ∈ Wg := inW7 (i := 107) (by decide +kernel) rfl
theorem seX12_tablesOf : Cond.selects yX12_tablesOf.cls yX12_tablesOf yX12_tablesOf ∈ Wg := inWs (y := yX12_tablesOf) (n := 40) (i := 65) (by decide +kernel)
def mX12_tables : MD := (yX12_tables, cX12_tables, 1, (some .long))
theorem mdX12_tables : Md mX12_tables := ⟨inW7 (i := 100) rfl rfl, inW1 (i := 11) (by decide +kernel) rfl, ⟨by decide +kernel, by decide +kernel⟩, by decide, by decide +kernel⟩
theorem npX12_tables : (parseMethodDescriptor mX12_tables.1.desc).map (fun d => d.parameters.length) = some 0 := by decide +kernel
theorem imX12_tables : Cond.instanceMethod yX12_tables ∈ Wg := inW7 (i := 98) (by decide +kernel) rfl
theorem seX12_tables : Cond.selects yX12_tables.cls yX12_tables yX12_tables ∈ Wg := inW7 (i := 99) (by decide +kernel) rfl
def mX12_rankOf : MD := (yX12_rankOf, cX12_rankOf, 1, (some .long))
theorem mdX12_rankOf : Md mX12_rankOf := ⟨inW7 (i := 172) rfl rfl, inW1 (i := 11) (by decide +kernel) rfl, ⟨by decide +kernel, by decide +kernel⟩, by decide, by decide +kernel⟩
theorem npX12_rankOf : (parseMethodDescriptor mX12_rankOf.1.desc).map (fun d => d.parameters.length) = some 0 := by decide +kernel
theorem imX12_rankOf : Cond.instanceMethod yX12_rankOf ∈ Wg := inW7 (i := 171) (by decide +kernel) rfl
theorem seX12_rankOf : Cond.selects yX12_rankOf.cls yX12_rankOf yX12_rankOf ∈ Wg := inWs (y := yX12_rankOf) (n := 40) (i := 78) (by decide +kernel)
def mX12_rank : MD := (yX12_rank, cX12_rank, 1, (some .long))
theorem mdX12_rank : Md mX12_rank := ⟨inW7 (i := 168) rfl rfl, inW1 (i := 11) (by decide +kernel) rfl, ⟨by decide +kernel, by decide +kernel⟩, by decide, by decide +kernel⟩
theorem npX12_rank : (parseMethodDescriptor mX12_rank.1.desc).map (fun d => d.parameters.length) = some 0 := by decide +kernel
theorem imX12_rank : Cond.instanceMethod yX12_rank ∈ Wg := inW7 (i := 166) (by decide +kernel) rfl
theorem seX12_rank : Cond.selects yX12_rank.cls yX12_rank yX12_rank ∈ Wg := inW7 (i := 167) (by decide +kernel) rfl
def mX12_of : MD := (yX12_of, cX12_of, 5, (some .int))
theorem mdX12_of : Md mX12_of := ⟨inW7 (i := 176) rfl rfl, inW1 (i := 11) (by decide +kernel) rfl, ⟨by decide +kernel, by decide +kernel⟩, by decide, by decide +kernel⟩
theorem npX12_of : (parseMethodDescriptor mX12_of.1.desc).map (fun d => d.parameters.length) = some 3 := by decide +kernel
theorem imX12_of : Cond.instanceMethod yX12_of ∈ Wg := inW7 (i := 174) (by decide +kernel) rfl
theorem seX12_of : Cond.selects yX12_of.cls yX12_of yX12_of ∈ Wg := inW7 (i := 175) (by decide +kernel) rfl
def mX12_talliesAll : MD := (yX12_talliesAll, cX12_talliesAll, 2, none)
theorem mdX12_talliesAll : Md mX12_talliesAll := ⟨inW7 (i := 184) rfl rfl, inW1 (i := 11) (by decide +kernel) rfl, ⟨by decide +kernel, by decide +kernel⟩, by decide, by decide +kernel⟩
theorem npX12_talliesAll : (parseMethodDescriptor mX12_talliesAll.1.desc).map (fun d => d.parameters.length) = some 0 := by decide +kernel
theorem imX12_talliesAll : Cond.instanceMethod yX12_talliesAll ∈ Wg := inW7 (i := 183) (by decide +kernel) rfl
theorem seX12_talliesAll : Cond.selects yX12_talliesAll.cls yX12_talliesAll yX12_talliesAll ∈ Wg := inWs (y := yX12_talliesAll) (n := 40) (i := 79) (by decide +kernel)
def mX12_bounds : MD := (yX12_bounds, cX12_bounds, 5, (some .int))
theorem mdX12_bounds : Md mX12_bounds := ⟨inW7 (i := 188) rfl rfl, inW1 (i := 11) (by decide +kernel) rfl, ⟨by decide +kernel, by decide +kernel⟩, by decide, by decide +kernel⟩
theorem npX12_bounds : (parseMethodDescriptor mX12_bounds.1.desc).map (fun d => d.parameters.length) = some 2 := by decide +kernel
theorem imX12_bounds : Cond.instanceMethod yX12_bounds ∈ Wg := inW7 (i := 187) (by decide +kernel) rfl
theorem seX12_bounds : Cond.selects yX12_bounds.cls yX12_bounds yX12_bounds ∈ Wg := inWs (y := yX12_bounds) (n := 40) (i := 80) (by decide +kernel)
def mX12_least : MD := (yX12_least, cX12_least, 3, (some .int))
theorem mdX12_least : Md mX12_least := ⟨inW7 (i := 180) rfl rfl, inW1 (i := 11) (by decide +kernel) rfl, ⟨by decide +kernel, by decide +kernel⟩, by decide, by decide +kernel⟩
theorem npX12_least : (parseMethodDescriptor mX12_least.1.desc).map (fun d => d.parameters.length) = some 2 := by decide +kernel
theorem imX12_least : Cond.instanceMethod yX12_least ∈ Wg := inW7 (i := 178) (by decide +kernel) rfl
theorem seX12_least : Cond.selects yX12_least.cls yX12_least yX12_least ∈ Wg := inW7 (i := 179) (by decide +kernel) rfl
def mX12_most : MD := (yX12_most, cX12_most, 3, (some .int))
theorem mdX12_most : Md mX12_most := ⟨inW7 (i := 192) rfl rfl, inW1 (i := 11) (by decide +kernel) rfl, ⟨by decide +kernel, by decide +kernel⟩, by decide, by decide +kernel⟩
theorem npX12_most : (parseMethodDescriptor mX12_most.1.desc).map (fun d => d.parameters.length) = some 2 := by decide +kernel
theorem imX12_most : Cond.instanceMethod yX12_most ∈ Wg := inW7 (i := 190) (by decide +kernel) rfl
theorem seX12_most : Cond.selects yX12_most.cls yX12_most yX12_most ∈ Wg := inW7 (i := 191) (by decide +kernel) rfl
def mX12_fixed : MD := (yX12_fixed, cX12_fixed, 3, (some .int))
theorem mdX12_fixed : Md mX12_fixed := ⟨inW7 (i := 196) rfl rfl, inW1 (i := 11) (by decide +kernel) rfl, ⟨by decide +kernel, by decide +kernel⟩, by decide, by decide +kernel⟩
theorem npX12_fixed : (parseMethodDescriptor mX12_fixed.1.desc).map (fun d => d.parameters.length) = some 0 := by decide +kernel
theorem imX12_fixed : Cond.instanceMethod yX12_fixed ∈ Wg := inW7 (i := 194) (by decide +kernel) rfl
theorem seX12_fixed : Cond.selects yX12_fixed.cls yX12_fixed yX12_fixed ∈ Wg := inW7 (i := 195) (by decide +kernel) rfl
def mX12_having : MD := (yX12_having, cX12_having, 4, (some .long))
theorem mdX12_having : Md mX12_having := ⟨inW7 (i := 200) rfl rfl, inW1 (i := 11) (by decide +kernel) rfl, ⟨by decide +kernel, by decide +kernel⟩, by decide, by decide +kernel⟩
theorem npX12_having : (parseMethodDescriptor mX12_having.1.desc).map (fun d => d.parameters.length) = some 3 := by decide +kernel
theorem imX12_having : Cond.instanceMethod yX12_having ∈ Wg := inW7 (i := 198) (by decide +kernel) rfl
theorem seX12_having : Cond.selects yX12_having.cls yX12_having yX12_having ∈ Wg := inW7 (i := 199) (by decide +kernel) rfl
def mX12_part : MD := (yX12_part, cX12_part, 5, (some .long))
theorem mdX12_part : Md mX12_part := ⟨inW7 (i := 208) rfl rfl, inW1 (i := 11) (by decide +kernel) rfl, ⟨by decide +kernel, by decide +kernel⟩, by decide, by decide +kernel⟩
theorem npX12_part : (parseMethodDescriptor mX12_part.1.desc).map (fun d => d.parameters.length) = some 3 := by decide +kernel
theorem smX12_part : Cond.static yX12_part ∈ Wg := inW7 (i := 207) (by decide +kernel) rfl
def mX12_mean : MD := (yX12_mean, cX12_mean, 7, (some .long))
theorem mdX12_mean : Md mX12_mean := ⟨inW7 (i := 205) rfl rfl, inW1 (i := 11) (by decide +kernel) rfl, ⟨by decide +kernel, by decide +kernel⟩, by decide, by decide +kernel⟩
theorem npX12_mean : (parseMethodDescriptor mX12_mean.1.desc).map (fun d => d.parameters.length) = some 3 := by decide +kernel
theorem imX12_mean : Cond.instanceMethod yX12_mean ∈ Wg := inW7 (i := 203) (by decide +kernel) rfl
theorem seX12_mean : Cond.selects yX12_mean.cls yX12_mean yX12_mean ∈ Wg := inW7 (i := 204) (by decide +kernel) rfl
def mX12_weight : MD := (yX12_weight, cX12_weight, 1, (some .long))
theorem mdX12_weight : Md mX12_weight := ⟨inW7 (i := 215) rfl rfl, inW1 (i := 11) (by decide +kernel) rfl, ⟨by decide +kernel, by decide +kernel⟩, by decide, by decide +kernel⟩
theorem npX12_weight : (parseMethodDescriptor mX12_weight.1.desc).map (fun d => d.parameters.length) = some 0 := by decide +kernel
theorem imX12_weight : Cond.instanceMethod yX12_weight ∈ Wg := inW7 (i := 213) (by decide +kernel) rfl
theorem seX12_weight : Cond.selects yX12_weight.cls yX12_weight yX12_weight ∈ Wg := inW7 (i := 214) (by decide +kernel) rfl
def mX12_weighsAll : MD := (yX12_weighsAll, cX12_weighsAll, 1, none)
theorem mdX12_weighsAll : Md mX12_weighsAll := ⟨inW7 (i := 227) rfl rfl, inW1 (i := 11) (by decide +kernel) rfl, ⟨by decide +kernel, by decide +kernel⟩, by decide, by decide +kernel⟩
theorem npX12_weighsAll : (parseMethodDescriptor mX12_weighsAll.1.desc).map (fun d => d.parameters.length) = some 0 := by decide +kernel
theorem imX12_weighsAll : Cond.instanceMethod yX12_weighsAll ∈ Wg := inW7 (i := 226) (by decide +kernel) rfl
theorem seX12_weighsAll : Cond.selects yX12_weighsAll.cls yX12_weighsAll yX12_weighsAll ∈ Wg := inWs (y := yX12_weighsAll) (n := 40) (i := 82) (by decide +kernel)
def mX12_weights : MD := (yX12_weights, cX12_weights, 1, (some .long))
theorem mdX12_weights : Md mX12_weights := ⟨inW7 (i := 223) rfl rfl, inW1 (i := 11) (by decide +kernel) rfl, ⟨by decide +kernel, by decide +kernel⟩, by decide, by decide +kernel⟩
theorem npX12_weights : (parseMethodDescriptor mX12_weights.1.desc).map (fun d => d.parameters.length) = some 0 := by decide +kernel
theorem imX12_weights : Cond.instanceMethod yX12_weights ∈ Wg := inW7 (i := 221) (by decide +kernel) rfl
theorem seX12_weights : Cond.selects yX12_weights.cls yX12_weights yX12_weights ∈ Wg := inW7 (i := 222) (by decide +kernel) rfl
def mX12_heaviest : MD := (yX12_heaviest, cX12_heaviest, 1, (some .long))
theorem mdX12_heaviest : Md mX12_heaviest := ⟨inW7 (i := 231) rfl rfl, inW1 (i := 11) (by decide +kernel) rfl, ⟨by decide +kernel, by decide +kernel⟩, by decide, by decide +kernel⟩
theorem npX12_heaviest : (parseMethodDescriptor mX12_heaviest.1.desc).map (fun d => d.parameters.length) = some 0 := by decide +kernel
theorem imX12_heaviest : Cond.instanceMethod yX12_heaviest ∈ Wg := inW7 (i := 229) (by decide +kernel) rfl
theorem seX12_heaviest : Cond.selects yX12_heaviest.cls yX12_heaviest yX12_heaviest ∈ Wg := inW7 (i := 230) (by decide +kernel) rfl
def mX12_lightest : MD := (yX12_lightest, cX12_lightest, 1, (some .long))
theorem mdX12_lightest : Md mX12_lightest := ⟨inW7 (i := 235) rfl rfl, inW1 (i := 11) (by decide +kernel) rfl, ⟨by decide +kernel, by decide +kernel⟩, by decide, by decide +kernel⟩
theorem npX12_lightest : (parseMethodDescriptor mX12_lightest.1.desc).map (fun d => d.parameters.length) = some 0 := by decide +kernel
theorem imX12_lightest : Cond.instanceMethod yX12_lightest ∈ Wg := inW7 (i := 233) (by decide +kernel) rfl
theorem seX12_lightest : Cond.selects yX12_lightest.cls yX12_lightest yX12_lightest ∈ Wg := inW7 (i := 234) (by decide +kernel) rfl
def mX12_isStatistic : MD := (yX12_isStatistic, cX12_isStatistic, 2, (some .boolean))
theorem mdX12_isStatistic : Md mX12_isStatistic := ⟨inW8 (i := 3) rfl rfl, inW1 (i := 11) (by decide +kernel) rfl, ⟨by decide +kernel, by decide +kernel⟩, by decide, by decide +kernel⟩
theorem npX12_isStatistic : (parseMethodDescriptor mX12_isStatistic.1.desc).map (fun d => d.parameters.length) = some 1 := by decide +kernel
theorem imX12_isStatistic : Cond.instanceMethod yX12_isStatistic ∈ Wg := inW8 (i := 2) (by decide +kernel) rfl
theorem seX12_isStatistic : Cond.selects yX12_isStatistic.cls yX12_isStatistic yX12_isStatistic ∈ Wg := inWs (y := yX12_isStatistic) (n := 40) (i := 83) (by decide +kernel)
def mX12_statistic : MD := (yX12_statistic, cX12_statistic, 2, (some .long))
theorem mdX12_statistic : Md mX12_statistic := ⟨inW7 (i := 239) rfl rfl, inW1 (i := 11) (by decide +kernel) rfl, ⟨by decide +kernel, by decide +kernel⟩, by decide, by decide +kernel⟩
theorem npX12_statistic : (parseMethodDescriptor mX12_statistic.1.desc).map (fun d => d.parameters.length) = some 1 := by decide +kernel
theorem imX12_statistic : Cond.instanceMethod yX12_statistic ∈ Wg := inW7 (i := 237) (by decide +kernel) rfl
theorem seX12_statistic : Cond.selects yX12_statistic.cls yX12_statistic yX12_statistic ∈ Wg := inW7 (i := 238) (by decide +kernel) rfl
def mX12_measuresAll : MD := (yX12_measuresAll, cX12_measuresAll, 2, none)
theorem mdX12_measuresAll : Md mX12_measuresAll := ⟨inW8 (i := 12) rfl rfl, inW1 (i := 11) (by decide +kernel) rfl, ⟨by decide +kernel, by decide +kernel⟩, by decide, by decide +kernel⟩
theorem npX12_measuresAll : (parseMethodDescriptor mX12_measuresAll.1.desc).map (fun d => d.parameters.length) = some 1 := by decide +kernel
theorem imX12_measuresAll : Cond.instanceMethod yX12_measuresAll ∈ Wg := inW8 (i := 11) (by decide +kernel) rfl
theorem seX12_measuresAll : Cond.selects yX12_measuresAll.cls yX12_measuresAll yX12_measuresAll ∈ Wg := inWs (y := yX12_measuresAll) (n := 40) (i := 84) (by decide +kernel)
def mX12_extreme : MD := (yX12_extreme, cX12_extreme, 2, (some .long))
theorem mdX12_extreme : Md mX12_extreme := ⟨inW8 (i := 8) rfl rfl, inW1 (i := 11) (by decide +kernel) rfl, ⟨by decide +kernel, by decide +kernel⟩, by decide, by decide +kernel⟩
theorem npX12_extreme : (parseMethodDescriptor mX12_extreme.1.desc).map (fun d => d.parameters.length) = some 1 := by decide +kernel
theorem imX12_extreme : Cond.instanceMethod yX12_extreme ∈ Wg := inW8 (i := 6) (by decide +kernel) rfl
theorem seX12_extreme : Cond.selects yX12_extreme.cls yX12_extreme yX12_extreme ∈ Wg := inW8 (i := 7) (by decide +kernel) rfl
def mX12_share : MD := (yX12_share, cX12_share, 3, (some .long))
theorem mdX12_share : Md mX12_share := ⟨inW8 (i := 16) rfl rfl, inW1 (i := 11) (by decide +kernel) rfl, ⟨by decide +kernel, by decide +kernel⟩, by decide, by decide +kernel⟩
theorem npX12_share : (parseMethodDescriptor mX12_share.1.desc).map (fun d => d.parameters.length) = some 2 := by decide +kernel
theorem imX12_share : Cond.instanceMethod yX12_share ∈ Wg := inW8 (i := 14) (by decide +kernel) rfl
theorem seX12_share : Cond.selects yX12_share.cls yX12_share yX12_share ∈ Wg := inW8 (i := 15) (by decide +kernel) rfl
def mX12_chi : MD := (yX12_chi, cX12_chi, 10, (some .long))
theorem mdX12_chi : Md mX12_chi := ⟨inW8 (i := 20) rfl rfl, inW1 (i := 11) (by decide +kernel) rfl, ⟨by decide +kernel, by decide +kernel⟩, by decide, by decide +kernel⟩
theorem npX12_chi : (parseMethodDescriptor mX12_chi.1.desc).map (fun d => d.parameters.length) = some 0 := by decide +kernel
theorem imX12_chi : Cond.instanceMethod yX12_chi ∈ Wg := inW8 (i := 18) (by decide +kernel) rfl
theorem seX12_chi : Cond.selects yX12_chi.cls yX12_chi yX12_chi ∈ Wg := inW8 (i := 19) (by decide +kernel) rfl
def mX12_excess : MD := (yX12_excess, cX12_excess, 4, (some .int))
theorem mdX12_excess : Md mX12_excess := ⟨inW8 (i := 34) rfl rfl, inW1 (i := 11) (by decide +kernel) rfl, ⟨by decide +kernel, by decide +kernel⟩, by decide, by decide +kernel⟩
theorem npX12_excess : (parseMethodDescriptor mX12_excess.1.desc).map (fun d => d.parameters.length) = some 2 := by decide +kernel
theorem imX12_excess : Cond.instanceMethod yX12_excess ∈ Wg := inW8 (i := 32) (by decide +kernel) rfl
theorem seX12_excess : Cond.selects yX12_excess.cls yX12_excess yX12_excess ∈ Wg := inW8 (i := 33) (by decide +kernel) rfl
def mX12_canGo : MD := (yX12_canGo, cX12_canGo, 6, (some .boolean))
theorem mdX12_canGo : Md mX12_canGo := ⟨inW8 (i := 56) rfl rfl, inW1 (i := 11) (by decide +kernel) rfl, ⟨by decide +kernel, by decide +kernel⟩, by decide, by decide +kernel⟩
theorem npX12_canGo : (parseMethodDescriptor mX12_canGo.1.desc).map (fun d => d.parameters.length) = some 4 := by decide +kernel
theorem imX12_canGo : Cond.instanceMethod yX12_canGo ∈ Wg := inW8 (i := 55) (by decide +kernel) rfl
theorem seX12_canGo : Cond.selects yX12_canGo.cls yX12_canGo yX12_canGo ∈ Wg := inWs (y := yX12_canGo) (n := 40) (i := 86) (by decide +kernel)
def mX12_two : MD := (yX12_two, cX12_two, 5, (some .int))
theorem mdX12_two : Md mX12_two := ⟨inW8 (i := 52) rfl rfl, inW1 (i := 11) (by decide +kernel) rfl, ⟨by decide +kernel, by decide +kernel⟩, by decide, by decide +kernel⟩
theorem npX12_two : (parseMethodDescriptor mX12_two.1.desc).map (fun d => d.parameters.length) = some 4 := by decide +kernel
theorem imX12_two : Cond.instanceMethod yX12_two ∈ Wg := inW8 (i := 51) (by decide +kernel) rfl
theorem seX12_two : Cond.selects yX12_two.cls yX12_two yX12_two ∈ Wg := inWs (y := yX12_two) (n := 40) (i := 85) (by decide +kernel)
def mX12_changes : MD := (yX12_changes, cX12_changes, 6, none)
theorem mdX12_changes : Md mX12_changes := ⟨inW8 (i := 107) rfl rfl, inW1 (i := 11) (by decide +kernel) rfl, ⟨by decide +kernel, by decide +kernel⟩, by decide, by decide +kernel⟩
theorem npX12_changes : (parseMethodDescriptor mX12_changes.1.desc).map (fun d => d.parameters.length) = some 4 := by decide +kernel
theorem imX12_changes : Cond.instanceMethod yX12_changes ∈ Wg := inW8 (i := 106) (by decide +kernel) rfl
theorem seX12_changes : Cond.selects yX12_changes.cls yX12_changes yX12_changes ∈ Wg := inWs (y := yX12_changes) (n := 40) (i := 97) (by decide +kernel)
def mX12_swaps : MD := (yX12_swaps, cX12_swaps, 7, (some .int))
theorem mdX12_swaps : Md mX12_swaps := ⟨inW8 (i := 48) rfl rfl, inW1 (i := 11) (by decide +kernel) rfl, ⟨by decide +kernel, by decide +kernel⟩, by decide, by decide +kernel⟩
theorem npX12_swaps : (parseMethodDescriptor mX12_swaps.1.desc).map (fun d => d.parameters.length) = some 0 := by decide +kernel
theorem imX12_swaps : Cond.instanceMethod yX12_swaps ∈ Wg := inW8 (i := 46) (by decide +kernel) rfl
theorem seX12_swaps : Cond.selects yX12_swaps.cls yX12_swaps yX12_swaps ∈ Wg := inW8 (i := 47) (by decide +kernel) rfl
def mX12_listsAll : MD := (yX12_listsAll, cX12_listsAll, 1, (some .boolean))
theorem mdX12_listsAll : Md mX12_listsAll := ⟨inW8 (i := 68) rfl rfl, inW1 (i := 11) (by decide +kernel) rfl, ⟨by decide +kernel, by decide +kernel⟩, by decide, by decide +kernel⟩
theorem npX12_listsAll : (parseMethodDescriptor mX12_listsAll.1.desc).map (fun d => d.parameters.length) = some 0 := by decide +kernel
theorem imX12_listsAll : Cond.instanceMethod yX12_listsAll ∈ Wg := inW8 (i := 67) (by decide +kernel) rfl
theorem seX12_listsAll : Cond.selects yX12_listsAll.cls yX12_listsAll yX12_listsAll ∈ Wg := inWs (y := yX12_listsAll) (n := 40) (i := 88) (by decide +kernel)
def mX12_listedAt : MD := (yX12_listedAt, cX12_listedAt, 6, (some .int))
theorem mdX12_listedAt : Md mX12_listedAt := ⟨inW8 (i := 111) rfl rfl, inW1 (i := 11) (by decide +kernel) rfl, ⟨by decide +kernel, by decide +kernel⟩, by decide, by decide +kernel⟩
theorem npX12_listedAt : (parseMethodDescriptor mX12_listedAt.1.desc).map (fun d => d.parameters.length) = some 2 := by decide +kernel
theorem imX12_listedAt : Cond.instanceMethod yX12_listedAt ∈ Wg := inW8 (i := 110) (by decide +kernel) rfl
theorem seX12_listedAt : Cond.selects yX12_listedAt.cls yX12_listedAt yX12_listedAt ∈ Wg := inWs (y := yX12_listedAt) (n := 40) (i := 98) (by decide +kernel)
def mX12_isAhead : MD := (yX12_isAhead, cX12_isAhead, 5, (some .boolean))
theorem mdX12_isAhead : Md mX12_isAhead := ⟨inW8 (i := 115) rfl rfl, inW1 (i := 11) (by decide +kernel) rfl, ⟨by decide +kernel, by decide +kernel⟩, by decide, by decide +kernel⟩
theorem npX12_isAhead : (parseMethodDescriptor mX12_isAhead.1.desc).map (fun d => d.parameters.length) = some 3 := by decide +kernel
theorem imX12_isAhead : Cond.instanceMethod yX12_isAhead ∈ Wg := inW8 (i := 114) (by decide +kernel) rfl
theorem seX12_isAhead : Cond.selects yX12_isAhead.cls yX12_isAhead yX12_isAhead ∈ Wg := inWs (y := yX12_isAhead) (n := 40) (i := 99) (by decide +kernel)
def mX12_comesOf : MD := (yX12_comesOf, cX12_comesOf, 5, (some .int))
theorem mdX12_comesOf : Md mX12_comesOf := ⟨inW8 (i := 103) rfl rfl, inW1 (i := 11) (by decide +kernel) rfl, ⟨by decide +kernel, by decide +kernel⟩, by decide, by decide +kernel⟩
theorem npX12_comesOf : (parseMethodDescriptor mX12_comesOf.1.desc).map (fun d => d.parameters.length) = some 3 := by decide +kernel
theorem imX12_comesOf : Cond.instanceMethod yX12_comesOf ∈ Wg := inW8 (i := 102) (by decide +kernel) rfl
theorem seX12_comesOf : Cond.selects yX12_comesOf.cls yX12_comesOf yX12_comesOf ∈ Wg := inWs (y := yX12_comesOf) (n := 40) (i := 96) (by decide +kernel)
def mX12_reaches : MD := (yX12_reaches, cX12_reaches, 3, none)
theorem mdX12_reaches : Md mX12_reaches := ⟨inW8 (i := 80) rfl rfl, inW1 (i := 11) (by decide +kernel) rfl, ⟨by decide +kernel, by decide +kernel⟩, by decide, by decide +kernel⟩
theorem npX12_reaches : (parseMethodDescriptor mX12_reaches.1.desc).map (fun d => d.parameters.length) = some 2 := by decide +kernel
theorem imX12_reaches : Cond.instanceMethod yX12_reaches ∈ Wg := inW8 (i := 79) (by decide +kernel) rfl
theorem seX12_reaches : Cond.selects yX12_reaches.cls yX12_reaches yX12_reaches ∈ Wg := inWs (y := yX12_reaches) (n := 40) (i := 91) (by decide +kernel)
def mX12_swapsFrom : MD := (yX12_swapsFrom, cX12_swapsFrom, 4, none)
theorem mdX12_swapsFrom : Md mX12_swapsFrom := ⟨inW8 (i := 84) rfl rfl, inW1 (i := 11) (by decide +kernel) rfl, ⟨by decide +kernel, by decide +kernel⟩, by decide, by decide +kernel⟩
theorem npX12_swapsFrom : (parseMethodDescriptor mX12_swapsFrom.1.desc).map (fun d => d.parameters.length) = some 1 := by decide +kernel
theorem imX12_swapsFrom : Cond.instanceMethod yX12_swapsFrom ∈ Wg := inW8 (i := 83) (by decide +kernel) rfl
theorem seX12_swapsFrom : Cond.selects yX12_swapsFrom.cls yX12_swapsFrom yX12_swapsFrom ∈ Wg := inWs (y := yX12_swapsFrom) (n := 40) (i := 92) (by decide +kernel)
def mX12_choices : MD := (yX12_choices, cX12_choices, 0, (some .int))
theorem mdX12_choices : Md mX12_choices := ⟨inW8 (i := 87) rfl rfl, inW1 (i := 11) (by decide +kernel) rfl, ⟨by decide +kernel, by decide +kernel⟩, by decide, by decide +kernel⟩
theorem npX12_choices : (parseMethodDescriptor mX12_choices.1.desc).map (fun d => d.parameters.length) = some 0 := by decide +kernel
theorem smX12_choices : Cond.static yX12_choices ∈ Wg := inW8 (i := 86) (by decide +kernel) rfl
def mX12_isChoice : MD := (yX12_isChoice, cX12_isChoice, 6, (some .boolean))
theorem mdX12_isChoice : Md mX12_isChoice := ⟨inW8 (i := 95) rfl rfl, inW1 (i := 11) (by decide +kernel) rfl, ⟨by decide +kernel, by decide +kernel⟩, by decide, by decide +kernel⟩
theorem npX12_isChoice : (parseMethodDescriptor mX12_isChoice.1.desc).map (fun d => d.parameters.length) = some 1 := by decide +kernel
theorem imX12_isChoice : Cond.instanceMethod yX12_isChoice ∈ Wg := inW8 (i := 94) (by decide +kernel) rfl
theorem seX12_isChoice : Cond.selects yX12_isChoice.cls yX12_isChoice yX12_isChoice ∈ Wg := inWs (y := yX12_isChoice) (n := 40) (i := 94) (by decide +kernel)
def mX12_moreOf : MD := (yX12_moreOf, cX12_moreOf, 2, (some .int))
theorem mdX12_moreOf : Md mX12_moreOf := ⟨inW8 (i := 91) rfl rfl, inW1 (i := 11) (by decide +kernel) rfl, ⟨by decide +kernel, by decide +kernel⟩, by decide, by decide +kernel⟩
theorem npX12_moreOf : (parseMethodDescriptor mX12_moreOf.1.desc).map (fun d => d.parameters.length) = some 1 := by decide +kernel
theorem imX12_moreOf : Cond.instanceMethod yX12_moreOf ∈ Wg := inW8 (i := 90) (by decide +kernel) rfl
theorem seX12_moreOf : Cond.selects yX12_moreOf.cls yX12_moreOf yX12_moreOf ∈ Wg := inWs (y := yX12_moreOf) (n := 40) (i := 93) (by decide +kernel)
def mX12_lessOf : MD := (yX12_lessOf, cX12_lessOf, 2, (some .int))
theorem mdX12_lessOf : Md mX12_lessOf := ⟨inW8 (i := 99) rfl rfl, inW1 (i := 11) (by decide +kernel) rfl, ⟨by decide +kernel, by decide +kernel⟩, by decide, by decide +kernel⟩
theorem npX12_lessOf : (parseMethodDescriptor mX12_lessOf.1.desc).map (fun d => d.parameters.length) = some 1 := by decide +kernel
theorem imX12_lessOf : Cond.instanceMethod yX12_lessOf ∈ Wg := inW8 (i := 98) (by decide +kernel) rfl
theorem seX12_lessOf : Cond.selects yX12_lessOf.cls yX12_lessOf yX12_lessOf ∈ Wg := inWs (y := yX12_lessOf) (n := 40) (i := 95) (by decide +kernel)
def mX12_turnsFrom : MD := (yX12_turnsFrom, cX12_turnsFrom, 10, none)
theorem mdX12_turnsFrom : Md mX12_turnsFrom := ⟨inW8 (i := 119) rfl rfl, inW1 (i := 11) (by decide +kernel) rfl, ⟨by decide +kernel, by decide +kernel⟩, by decide, by decide +kernel⟩
theorem npX12_turnsFrom : (parseMethodDescriptor mX12_turnsFrom.1.desc).map (fun d => d.parameters.length) = some 1 := by decide +kernel
theorem imX12_turnsFrom : Cond.instanceMethod yX12_turnsFrom ∈ Wg := inW8 (i := 118) (by decide +kernel) rfl
theorem seX12_turnsFrom : Cond.selects yX12_turnsFrom.cls yX12_turnsFrom yX12_turnsFrom ∈ Wg := inWs (y := yX12_turnsFrom) (n := 40) (i := 100) (by decide +kernel)
def mX12_begins : MD := (yX12_begins, cX12_begins, 2, none)
theorem mdX12_begins : Md mX12_begins := ⟨inW8 (i := 72) rfl rfl, inW1 (i := 11) (by decide +kernel) rfl, ⟨by decide +kernel, by decide +kernel⟩, by decide, by decide +kernel⟩
theorem npX12_begins : (parseMethodDescriptor mX12_begins.1.desc).map (fun d => d.parameters.length) = some 0 := by decide +kernel
theorem imX12_begins : Cond.instanceMethod yX12_begins ∈ Wg := inW8 (i := 71) (by decide +kernel) rfl
theorem seX12_begins : Cond.selects yX12_begins.cls yX12_begins yX12_begins ∈ Wg := inWs (y := yX12_begins) (n := 40) (i := 89) (by decide +kernel)
def mX12_spreads : MD := (yX12_spreads, cX12_spreads, 5, (some .int))
theorem mdX12_spreads : Md mX12_spreads := ⟨inW8 (i := 76) rfl rfl, inW1 (i := 11) (by decide +kernel) rfl, ⟨by decide +kernel, by decide +kernel⟩, by decide, by decide +kernel⟩
theorem npX12_spreads : (parseMethodDescriptor mX12_spreads.1.desc).map (fun d => d.parameters.length) = some 2 := by decide +kernel
theorem imX12_spreads : Cond.instanceMethod yX12_spreads ∈ Wg := inW8 (i := 75) (by decide +kernel) rfl
theorem seX12_spreads : Cond.selects yX12_spreads.cls yX12_spreads yX12_spreads ∈ Wg := inWs (y := yX12_spreads) (n := 40) (i := 90) (by decide +kernel)
def mX12_classesOf : MD := (yX12_classesOf, cX12_classesOf, 4, (some .int))
theorem mdX12_classesOf : Md mX12_classesOf := ⟨inW8 (i := 64) rfl rfl, inW1 (i := 11) (by decide +kernel) rfl, ⟨by decide +kernel, by decide +kernel⟩, by decide, by decide +kernel⟩
theorem npX12_classesOf : (parseMethodDescriptor mX12_classesOf.1.desc).map (fun d => d.parameters.length) = some 1 := by decide +kernel
theorem imX12_classesOf : Cond.instanceMethod yX12_classesOf ∈ Wg := inW8 (i := 63) (by decide +kernel) rfl
theorem seX12_classesOf : Cond.selects yX12_classesOf.cls yX12_classesOf yX12_classesOf ∈ Wg := inWs (y := yX12_classesOf) (n := 40) (i := 87) (by decide +kernel)
def mX12_classes : MD := (yX12_classes, cX12_classes, 1, (some .int))
theorem mdX12_classes : Md mX12_classes := ⟨inW8 (i := 60) rfl rfl, inW1 (i := 11) (by decide +kernel) rfl, ⟨by decide +kernel, by decide +kernel⟩, by decide, by decide +kernel⟩
theorem npX12_classes : (parseMethodDescriptor mX12_classes.1.desc).map (fun d => d.parameters.length) = some 0 := by decide +kernel
theorem imX12_classes : Cond.instanceMethod yX12_classes ∈ Wg := inW8 (i := 58) (by decide +kernel) rfl
theorem seX12_classes : Cond.selects yX12_classes.cls yX12_classes yX12_classes ∈ Wg := inW8 (i := 59) (by decide +kernel) rfl
def mX12_joined : MD := (yX12_joined, cX12_joined, 1, (some .int))
theorem mdX12_joined : Md mX12_joined := ⟨inW8 (i := 123) rfl rfl, inW1 (i := 11) (by decide +kernel) rfl, ⟨by decide +kernel, by decide +kernel⟩, by decide, by decide +kernel⟩
theorem npX12_joined : (parseMethodDescriptor mX12_joined.1.desc).map (fun d => d.parameters.length) = some 0 := by decide +kernel
theorem imX12_joined : Cond.instanceMethod yX12_joined ∈ Wg := inW8 (i := 121) (by decide +kernel) rfl
theorem seX12_joined : Cond.selects yX12_joined.cls yX12_joined yX12_joined ∈ Wg := inW8 (i := 122) (by decide +kernel) rfl
def mX12_whyNot : MD := (yX12_whyNot, cX12_whyNot, 2, (some .int))
theorem mdX12_whyNot : Md mX12_whyNot := ⟨inW8 (i := 131) rfl rfl, inW1 (i := 11) (by decide +kernel) rfl, ⟨by decide +kernel, by decide +kernel⟩, by decide, by decide +kernel⟩
theorem npX12_whyNot : (parseMethodDescriptor mX12_whyNot.1.desc).map (fun d => d.parameters.length) = some 1 := by decide +kernel
theorem imX12_whyNot : Cond.instanceMethod yX12_whyNot ∈ Wg := inW8 (i := 130) (by decide +kernel) rfl
theorem seX12_whyNot : Cond.selects yX12_whyNot.cls yX12_whyNot yX12_whyNot ∈ Wg := inWs (y := yX12_whyNot) (n := 40) (i := 101) (by decide +kernel)
def mX12_classOf : MD := (yX12_classOf, cX12_classOf, 4, (some .int))
theorem mdX12_classOf : Md mX12_classOf := ⟨inW8 (i := 127) rfl rfl, inW1 (i := 11) (by decide +kernel) rfl, ⟨by decide +kernel, by decide +kernel⟩, by decide, by decide +kernel⟩
theorem npX12_classOf : (parseMethodDescriptor mX12_classOf.1.desc).map (fun d => d.parameters.length) = some 1 := by decide +kernel
theorem imX12_classOf : Cond.instanceMethod yX12_classOf ∈ Wg := inW8 (i := 125) (by decide +kernel) rfl
theorem seX12_classOf : Cond.selects yX12_classOf.cls yX12_classOf yX12_classOf ∈ Wg := inW8 (i := 126) (by decide +kernel) rfl
def mX12_sized : MD := (yX12_sized, cX12_sized, 3, (some .int))
theorem mdX12_sized : Md mX12_sized := ⟨inW8 (i := 135) rfl rfl, inW1 (i := 11) (by decide +kernel) rfl, ⟨by decide +kernel, by decide +kernel⟩, by decide, by decide +kernel⟩
theorem npX12_sized : (parseMethodDescriptor mX12_sized.1.desc).map (fun d => d.parameters.length) = some 1 := by decide +kernel
theorem imX12_sized : Cond.instanceMethod yX12_sized ∈ Wg := inW8 (i := 133) (by decide +kernel) rfl
theorem seX12_sized : Cond.selects yX12_sized.cls yX12_sized yX12_sized ∈ Wg := inW8 (i := 134) (by decide +kernel) rfl
def mX12_apart : MD := (yX12_apart, cX12_apart, 4, (some .int))
theorem mdX12_apart : Md mX12_apart := ⟨inW8 (i := 139) rfl rfl, inW1 (i := 11) (by decide +kernel) rfl, ⟨by decide +kernel, by decide +kernel⟩, by decide, by decide +kernel⟩
theorem npX12_apart : (parseMethodDescriptor mX12_apart.1.desc).map (fun d => d.parameters.length) = some 2 := by decide +kernel
theorem imX12_apart : Cond.instanceMethod yX12_apart ∈ Wg := inW8 (i := 137) (by decide +kernel) rfl
theorem seX12_apart : Cond.selects yX12_apart.cls yX12_apart yX12_apart ∈ Wg := inW8 (i := 138) (by decide +kernel) rfl
def mX12_whyNotNow : MD := (yX12_whyNotNow, cX12_whyNotNow, 1, (some .int))
theorem mdX12_whyNotNow : Md mX12_whyNotNow := ⟨inW8 (i := 147) rfl rfl, inW1 (i := 11) (by decide +kernel) rfl, ⟨by decide +kernel, by decide +kernel⟩, by decide, by decide +kernel⟩
theorem npX12_whyNotNow : (parseMethodDescriptor mX12_whyNotNow.1.desc).map (fun d => d.parameters.length) = some 0 := by decide +kernel
theorem imX12_whyNotNow : Cond.instanceMethod yX12_whyNotNow ∈ Wg := inW8 (i := 146) (by decide +kernel) rfl
theorem seX12_whyNotNow : Cond.selects yX12_whyNotNow.cls yX12_whyNotNow yX12_whyNotNow ∈ Wg := inWs (y := yX12_whyNotNow) (n := 40) (i := 102) (by decide +kernel)
def mX12_farOf : MD := (yX12_farOf, cX12_farOf, 3, (some .int))
theorem mdX12_farOf : Md mX12_farOf := ⟨inW8 (i := 151) rfl rfl, inW1 (i := 11) (by decide +kernel) rfl, ⟨by decide +kernel, by decide +kernel⟩, by decide, by decide +kernel⟩
theorem npX12_farOf : (parseMethodDescriptor mX12_farOf.1.desc).map (fun d => d.parameters.length) = some 0 := by decide +kernel
theorem imX12_farOf : Cond.instanceMethod yX12_farOf ∈ Wg := inW8 (i := 150) (by decide +kernel) rfl
theorem seX12_farOf : Cond.selects yX12_farOf.cls yX12_farOf yX12_farOf ∈ Wg := inWs (y := yX12_farOf) (n := 40) (i := 103) (by decide +kernel)
def mX12_far : MD := (yX12_far, cX12_far, 2, (some .int))
theorem mdX12_far : Md mX12_far := ⟨inW8 (i := 143) rfl rfl, inW1 (i := 11) (by decide +kernel) rfl, ⟨by decide +kernel, by decide +kernel⟩, by decide, by decide +kernel⟩
theorem npX12_far : (parseMethodDescriptor mX12_far.1.desc).map (fun d => d.parameters.length) = some 0 := by decide +kernel
theorem imX12_far : Cond.instanceMethod yX12_far ∈ Wg := inW8 (i := 141) (by decide +kernel) rfl
theorem seX12_far : Cond.selects yX12_far.cls yX12_far yX12_far ∈ Wg := inW8 (i := 142) (by decide +kernel) rfl
def mX12_farthest : MD := (yX12_farthest, cX12_farthest, 3, (some .int))
theorem mdX12_farthest : Md mX12_farthest := ⟨inW8 (i := 155) rfl rfl, inW1 (i := 11) (by decide +kernel) rfl, ⟨by decide +kernel, by decide +kernel⟩, by decide, by decide +kernel⟩
theorem npX12_farthest : (parseMethodDescriptor mX12_farthest.1.desc).map (fun d => d.parameters.length) = some 0 := by decide +kernel
theorem imX12_farthest : Cond.instanceMethod yX12_farthest ∈ Wg := inW8 (i := 153) (by decide +kernel) rfl
theorem seX12_farthest : Cond.selects yX12_farthest.cls yX12_farthest yX12_farthest ∈ Wg := inW8 (i := 154) (by decide +kernel) rfl
def mX12_within : MD := (yX12_within, cX12_within, 5, (some .int))
theorem mdX12_within : Md mX12_within := ⟨inW8 (i := 159) rfl rfl, inW1 (i := 11) (by decide +kernel) rfl, ⟨by decide +kernel, by decide +kernel⟩, by decide, by decide +kernel⟩
theorem npX12_within : (parseMethodDescriptor mX12_within.1.desc).map (fun d => d.parameters.length) = some 1 := by decide +kernel
theorem imX12_within : Cond.instanceMethod yX12_within ∈ Wg := inW8 (i := 157) (by decide +kernel) rfl
theorem seX12_within : Cond.selects yX12_within.cls yX12_within yX12_within ∈ Wg := inW8 (i := 158) (by decide +kernel) rfl
def mX12_ways : MD := (yX12_ways, cX12_ways, 5, (some .long))
theorem mdX12_ways : Md mX12_ways := ⟨inW8 (i := 164) rfl rfl, inW1 (i := 11) (by decide +kernel) rfl, ⟨by decide +kernel, by decide +kernel⟩, by decide, by decide +kernel⟩
theorem npX12_ways : (parseMethodDescriptor mX12_ways.1.desc).map (fun d => d.parameters.length) = some 2 := by decide +kernel
theorem imX12_ways : Cond.instanceMethod yX12_ways ∈ Wg := inW8 (i := 162) (by decide +kernel) rfl
theorem seX12_ways : Cond.selects yX12_ways.cls yX12_ways yX12_ways ∈ Wg := inW8 (i := 163) (by decide +kernel) rfl
def mX12_goesOn : MD := (yX12_goesOn, cX12_goesOn, 5, none)
theorem mdX12_goesOn : Md mX12_goesOn := ⟨inW8 (i := 170) rfl rfl, inW1 (i := 11) (by decide +kernel) rfl, ⟨by decide +kernel, by decide +kernel⟩, by decide, by decide +kernel⟩
theorem npX12_goesOn : (parseMethodDescriptor mX12_goesOn.1.desc).map (fun d => d.parameters.length) = some 0 := by decide +kernel
theorem imX12_goesOn : Cond.instanceMethod yX12_goesOn ∈ Wg := inW8 (i := 169) (by decide +kernel) rfl
theorem seX12_goesOn : Cond.selects yX12_goesOn.cls yX12_goesOn yX12_goesOn ∈ Wg := inWs (y := yX12_goesOn) (n := 40) (i := 104) (by decide +kernel)
def mX12_drawn : MD := (yX12_drawn, cX12_drawn, 4, (some .long))
theorem mdX12_drawn : Md mX12_drawn := ⟨inW8 (i := 174) rfl rfl, inW1 (i := 11) (by decide +kernel) rfl, ⟨by decide +kernel, by decide +kernel⟩, by decide, by decide +kernel⟩
theorem npX12_drawn : (parseMethodDescriptor mX12_drawn.1.desc).map (fun d => d.parameters.length) = some 1 := by decide +kernel
theorem imX12_drawn : Cond.instanceMethod yX12_drawn ∈ Wg := inW8 (i := 172) (by decide +kernel) rfl
theorem seX12_drawn : Cond.selects yX12_drawn.cls yX12_drawn yX12_drawn ∈ Wg := inW8 (i := 173) (by decide +kernel) rfl
def mX12_evenly : MD := (yX12_evenly, cX12_evenly, 1, (some .int))
theorem mdX12_evenly : Md mX12_evenly := ⟨inW8 (i := 180) rfl rfl, inW1 (i := 11) (by decide +kernel) rfl, ⟨by decide +kernel, by decide +kernel⟩, by decide, by decide +kernel⟩
theorem npX12_evenly : (parseMethodDescriptor mX12_evenly.1.desc).map (fun d => d.parameters.length) = some 0 := by decide +kernel
theorem imX12_evenly : Cond.instanceMethod yX12_evenly ∈ Wg := inW8 (i := 178) (by decide +kernel) rfl
theorem seX12_evenly : Cond.selects yX12_evenly.cls yX12_evenly yX12_evenly ∈ Wg := inW8 (i := 179) (by decide +kernel) rfl
def mX12_keeps : MD := (yX12_keeps, cX12_keeps, 2, none)
theorem mdX12_keeps : Md mX12_keeps := ⟨inW8 (i := 188) rfl rfl, inW1 (i := 11) (by decide +kernel) rfl, ⟨by decide +kernel, by decide +kernel⟩, by decide, by decide +kernel⟩
theorem npX12_keeps : (parseMethodDescriptor mX12_keeps.1.desc).map (fun d => d.parameters.length) = some 0 := by decide +kernel
theorem imX12_keeps : Cond.instanceMethod yX12_keeps ∈ Wg := inW8 (i := 187) (by decide +kernel) rfl
theorem seX12_keeps : Cond.selects yX12_keeps.cls yX12_keeps yX12_keeps ∈ Wg := inWs (y := yX12_keeps) (n := 40) (i := 105) (by decide +kernel)
def mX12_goesBack : MD := (yX12_goesBack, cX12_goesBack, 3, none)
theorem mdX12_goesBack : Md mX12_goesBack := ⟨inW8 (i := 213) rfl rfl, inW1 (i := 11) (by decide +kernel) rfl, ⟨by decide +kernel, by decide +kernel⟩, by decide, by decide +kernel⟩
theorem npX12_goesBack : (parseMethodDescriptor mX12_goesBack.1.desc).map (fun d => d.parameters.length) = some 1 := by decide +kernel
theorem imX12_goesBack : Cond.instanceMethod yX12_goesBack ∈ Wg := inW8 (i := 212) (by decide +kernel) rfl
theorem seX12_goesBack : Cond.selects yX12_goesBack.cls yX12_goesBack yX12_goesBack ∈ Wg := inWs (y := yX12_goesBack) (n := 40) (i := 108) (by decide +kernel)
def mX12_swap : MD := (yX12_swap, cX12_swap, 7, (some .int))
theorem mdX12_swap : Md mX12_swap := ⟨inW8 (i := 184) rfl rfl, inW1 (i := 11) (by decide +kernel) rfl, ⟨by decide +kernel, by decide +kernel⟩, by decide, by decide +kernel⟩
theorem npX12_swap : (parseMethodDescriptor mX12_swap.1.desc).map (fun d => d.parameters.length) = some 4 := by decide +kernel
theorem imX12_swap : Cond.instanceMethod yX12_swap ∈ Wg := inW8 (i := 182) (by decide +kernel) rfl
theorem seX12_swap : Cond.selects yX12_swap.cls yX12_swap yX12_swap ∈ Wg := inW8 (i := 183) (by decide +kernel) rfl
def mX12_draw : MD := (yX12_draw, cX12_draw, 2, (some .int))
theorem mdX12_draw : Md mX12_draw := ⟨inW8 (i := 197) rfl rfl, inW1 (i := 11) (by decide +kernel) rfl, ⟨by decide +kernel, by decide +kernel⟩, by decide, by decide +kernel⟩
theorem npX12_draw : (parseMethodDescriptor mX12_draw.1.desc).map (fun d => d.parameters.length) = some 1 := by decide +kernel
theorem imX12_draw : Cond.instanceMethod yX12_draw ∈ Wg := inW8 (i := 196) (by decide +kernel) rfl
theorem seX12_draw : Cond.selects yX12_draw.cls yX12_draw yX12_draw ∈ Wg := inWs (y := yX12_draw) (n := 40) (i := 106) (by decide +kernel)
def mX12_drawOther : MD := (yX12_drawOther, cX12_drawOther, 4, (some .int))
theorem mdX12_drawOther : Md mX12_drawOther := ⟨inW8 (i := 205) rfl rfl, inW1 (i := 11) (by decide +kernel) rfl, ⟨by decide +kernel, by decide +kernel⟩, by decide, by decide +kernel⟩
theorem npX12_drawOther : (parseMethodDescriptor mX12_drawOther.1.desc).map (fun d => d.parameters.length) = some 2 := by decide +kernel
theorem imX12_drawOther : Cond.instanceMethod yX12_drawOther ∈ Wg := inW8 (i := 204) (by decide +kernel) rfl
theorem seX12_drawOther : Cond.selects yX12_drawOther.cls yX12_drawOther yX12_drawOther ∈ Wg := inWs (y := yX12_drawOther) (n := 40) (i := 107) (by decide +kernel)
def mX12_walk : MD := (yX12_walk, cX12_walk, 9, (some .int))
theorem mdX12_walk : Md mX12_walk := ⟨inW8 (i := 192) rfl rfl, inW1 (i := 11) (by decide +kernel) rfl, ⟨by decide +kernel, by decide +kernel⟩, by decide, by decide +kernel⟩
theorem npX12_walk : (parseMethodDescriptor mX12_walk.1.desc).map (fun d => d.parameters.length) = some 2 := by decide +kernel
theorem imX12_walk : Cond.instanceMethod yX12_walk ∈ Wg := inW8 (i := 190) (by decide +kernel) rfl
theorem seX12_walk : Cond.selects yX12_walk.cls yX12_walk yX12_walk ∈ Wg := inW8 (i := 191) (by decide +kernel) rfl
def mX12_undo : MD := (yX12_undo, cX12_undo, 1, (some .int))
theorem mdX12_undo : Md mX12_undo := ⟨inW8 (i := 209) rfl rfl, inW1 (i := 11) (by decide +kernel) rfl, ⟨by decide +kernel, by decide +kernel⟩, by decide, by decide +kernel⟩
theorem npX12_undo : (parseMethodDescriptor mX12_undo.1.desc).map (fun d => d.parameters.length) = some 0 := by decide +kernel
theorem imX12_undo : Cond.instanceMethod yX12_undo ∈ Wg := inW8 (i := 207) (by decide +kernel) rfl
theorem seX12_undo : Cond.selects yX12_undo.cls yX12_undo yX12_undo ∈ Wg := inW8 (i := 208) (by decide +kernel) rfl
def mX12_anew : MD := (yX12_anew, cX12_anew, 2, (some .int))
theorem mdX12_anew : Md mX12_anew := ⟨inW8 (i := 217) rfl rfl, inW1 (i := 11) (by decide +kernel) rfl, ⟨by decide +kernel, by decide +kernel⟩, by decide, by decide +kernel⟩
theorem npX12_anew : (parseMethodDescriptor mX12_anew.1.desc).map (fun d => d.parameters.length) = some 0 := by decide +kernel
theorem imX12_anew : Cond.instanceMethod yX12_anew ∈ Wg := inW8 (i := 215) (by decide +kernel) rfl
theorem seX12_anew : Cond.selects yX12_anew.cls yX12_anew yX12_anew ∈ Wg := inW8 (i := 216) (by decide +kernel) rfl
def mJ6_bitCount_0f7a4 : MD := (yJ6_bitCount_0f7a4, cJ6_bitCount_0f7a4, 1, (some .int))
theorem mdJ6_bitCount_0f7a4 : Md mJ6_bitCount_0f7a4 := ⟨inW4 (i := 36) rfl rfl, inW1 (i := 21) (by decide +kernel) rfl, ⟨by decide +kernel, by decide +kernel⟩, by decide, by decide +kernel⟩
theorem npJ6_bitCount_0f7a4 : (parseMethodDescriptor mJ6_bitCount_0f7a4.1.desc).map (fun d => d.parameters.length) = some 1 := by decide +kernel
theorem smJ6_bitCount_0f7a4 : Cond.static yJ6_bitCount_0f7a4 ∈ Wg := inW4 (i := 35) (by decide +kernel) rfl
def mJ9_max_7cf53 : MD := (yJ9_max_7cf53, cJ9_max_7cf53, 2, (some .int))
def mJ9_max_f86c9 : MD := (yJ9_max_f86c9, cJ9_max_f86c9, 4, (some .long))
def mJ9_min_7cf53 : MD := (yJ9_min_7cf53, cJ9_min_7cf53, 2, (some .int))
def mJ9_min_f86c9 : MD := (yJ9_min_f86c9, cJ9_min_f86c9, 4, (some .long))
def mJ0_length_8abf5 : MD := (yJ0_length_8abf5, cJ0_length_8abf5, 1, (some .int))
theorem mdJ0_length_8abf5 : Md mJ0_length_8abf5 := ⟨inW2 (i := 231) rfl rfl, inW1 (i := 14) (by decide +kernel) rfl, ⟨by decide +kernel, by decide +kernel⟩, by decide, by decide +kernel⟩
theorem npJ0_length_8abf5 : (parseMethodDescriptor mJ0_length_8abf5.1.desc).map (fun d => d.parameters.length) = some 0 := by decide +kernel
theorem imJ0_length_8abf5 : Cond.instanceMethod yJ0_length_8abf5 ∈ Wg := inW2 (i := 229) (by decide +kernel) rfl
theorem seJ0_length_8abf5 : Cond.selects yJ0_length_8abf5.cls yJ0_length_8abf5 yJ0_length_8abf5 ∈ Wg := inW2 (i := 230) (by decide +kernel) rfl
def mJ0_charAt_5068e : MD := (yJ0_charAt_5068e, cJ0_charAt_5068e, 2, (some .char))
theorem mdJ0_charAt_5068e : Md mJ0_charAt_5068e := ⟨inW3 (i := 1) rfl rfl, inW1 (i := 14) (by decide +kernel) rfl, ⟨by decide +kernel, by decide +kernel⟩, by decide, by decide +kernel⟩
theorem npJ0_charAt_5068e : (parseMethodDescriptor mJ0_charAt_5068e.1.desc).map (fun d => d.parameters.length) = some 1 := by decide +kernel
theorem imJ0_charAt_5068e : Cond.instanceMethod yJ0_charAt_5068e ∈ Wg := inW2 (i := 239) (by decide +kernel) rfl
theorem seJ0_charAt_5068e : Cond.selects yJ0_charAt_5068e.cls yJ0_charAt_5068e yJ0_charAt_5068e ∈ Wg := inW3 (i := 0) (by decide +kernel) rfl
def mJ0_coder_7d493 : MD := (yJ0_coder_7d493, cJ0_coder_7d493, 1, (some .byte))
theorem mdJ0_coder_7d493 : Md mJ0_coder_7d493 := ⟨inW2 (i := 235) rfl rfl, inW1 (i := 14) (by decide +kernel) rfl, ⟨by decide +kernel, by decide +kernel⟩, by decide, by decide +kernel⟩
theorem npJ0_coder_7d493 : (parseMethodDescriptor mJ0_coder_7d493.1.desc).map (fun d => d.parameters.length) = some 0 := by decide +kernel
theorem imJ0_coder_7d493 : Cond.instanceMethod yJ0_coder_7d493 ∈ Wg := inW2 (i := 233) (by decide +kernel) rfl
theorem seJ0_coder_7d493 : Cond.selects yJ0_coder_7d493.cls yJ0_coder_7d493 yJ0_coder_7d493 ∈ Wg := inW2 (i := 234) (by decide +kernel) rfl
def mJ0_isLatin1_aae02 : MD := (yJ0_isLatin1_aae02, cJ0_isLatin1_aae02, 1, (some .boolean))
theorem mdJ0_isLatin1_aae02 : Md mJ0_isLatin1_aae02 := ⟨inW3 (i := 5) rfl rfl, inW1 (i := 14) (by decide +kernel) rfl, ⟨by decide +kernel, by decide +kernel⟩, by decide, by decide +kernel⟩
theorem npJ0_isLatin1_aae02 : (parseMethodDescriptor mJ0_isLatin1_aae02.1.desc).map (fun d => d.parameters.length) = some 0 := by decide +kernel
theorem imJ0_isLatin1_aae02 : Cond.instanceMethod yJ0_isLatin1_aae02 ∈ Wg := inW3 (i := 3) (by decide +kernel) rfl
theorem seJ0_isLatin1_aae02 : Cond.selects yJ0_isLatin1_aae02.cls yJ0_isLatin1_aae02 yJ0_isLatin1_aae02 ∈ Wg := inW3 (i := 4) (by decide +kernel) rfl
def mJ0_checkIndex_df160 : MD := (yJ0_checkIndex_df160, cJ0_checkIndex_df160, 2, none)
theorem mdJ0_checkIndex_df160 : Md mJ0_checkIndex_df160 := ⟨inW3 (i := 11) rfl rfl, inW1 (i := 14) (by decide +kernel) rfl, ⟨by decide +kernel, by decide +kernel⟩, by decide, by decide +kernel⟩
theorem npJ0_checkIndex_df160 : (parseMethodDescriptor mJ0_checkIndex_df160.1.desc).map (fun d => d.parameters.length) = some 2 := by decide +kernel
theorem smJ0_checkIndex_df160 : Cond.static yJ0_checkIndex_df160 ∈ Wg := inW3 (i := 10) (by decide +kernel) rfl
def mJ1_charAt_3b067 : MD := (yJ1_charAt_3b067, cJ1_charAt_3b067, 2, (some .char))
theorem mdJ1_charAt_3b067 : Md mJ1_charAt_3b067 := ⟨inW3 (i := 8) rfl rfl, inW1 (i := 15) (by decide +kernel) rfl, ⟨by decide +kernel, by decide +kernel⟩, by decide, by decide +kernel⟩
theorem npJ1_charAt_3b067 : (parseMethodDescriptor mJ1_charAt_3b067.1.desc).map (fun d => d.parameters.length) = some 2 := by decide +kernel
theorem smJ1_charAt_3b067 : Cond.static yJ1_charAt_3b067 ∈ Wg := inW3 (i := 7) (by decide +kernel) rfl
def mJ2_getChar_3b067 : MD := (yJ2_getChar_3b067, cJ2_getChar_3b067, 2, (some .char))
theorem mdJ2_getChar_3b067 : Md mJ2_getChar_3b067 := ⟨inW3 (i := 29) rfl rfl, inW1 (i := 17) (by decide +kernel) rfl, ⟨by decide +kernel, by decide +kernel⟩, by decide, by decide +kernel⟩
theorem npJ2_getChar_3b067 : (parseMethodDescriptor mJ2_getChar_3b067.1.desc).map (fun d => d.parameters.length) = some 2 := by decide +kernel
theorem smJ2_getChar_3b067 : Cond.static yJ2_getChar_3b067 ∈ Wg := inW3 (i := 28) (by decide +kernel) rfl
def mJ2_length_9d52b : MD := (yJ2_length_9d52b, cJ2_length_9d52b, 1, (some .int))
theorem mdJ2_length_9d52b : Md mJ2_length_9d52b := ⟨inW3 (i := 25) rfl rfl, inW1 (i := 17) (by decide +kernel) rfl, ⟨by decide +kernel, by decide +kernel⟩, by decide, by decide +kernel⟩
theorem npJ2_length_9d52b : (parseMethodDescriptor mJ2_length_9d52b.1.desc).map (fun d => d.parameters.length) = some 1 := by decide +kernel
theorem smJ2_length_9d52b : Cond.static yJ2_length_9d52b ∈ Wg := inW3 (i := 24) (by decide +kernel) rfl
def mJ2_charAt_3b067 : MD := (yJ2_charAt_3b067, cJ2_charAt_3b067, 2, (some .char))
theorem mdJ2_charAt_3b067 : Md mJ2_charAt_3b067 := ⟨inW3 (i := 19) rfl rfl, inW1 (i := 17) (by decide +kernel) rfl, ⟨by decide +kernel, by decide +kernel⟩, by decide, by decide +kernel⟩
theorem npJ2_charAt_3b067 : (parseMethodDescriptor mJ2_charAt_3b067.1.desc).map (fun d => d.parameters.length) = some 2 := by decide +kernel
theorem smJ2_charAt_3b067 : Cond.static yJ2_charAt_3b067 ∈ Wg := inW3 (i := 18) (by decide +kernel) rfl
def mJ2_checkIndex_2214a : MD := (yJ2_checkIndex_2214a, cJ2_checkIndex_2214a, 2, none)
theorem mdJ2_checkIndex_2214a : Md mJ2_checkIndex_2214a := ⟨inW3 (i := 22) rfl rfl, inW1 (i := 17) (by decide +kernel) rfl, ⟨by decide +kernel, by decide +kernel⟩, by decide, by decide +kernel⟩
theorem npJ2_checkIndex_2214a : (parseMethodDescriptor mJ2_checkIndex_2214a.1.desc).map (fun d => d.parameters.length) = some 2 := by decide +kernel
theorem smJ2_checkIndex_2214a : Cond.static yJ2_checkIndex_2214a ∈ Wg := inW3 (i := 21) (by decide +kernel) rfl
def mJ7_fill_d0a16 : MD := (yJ7_fill_d0a16, cJ7_fill_d0a16, 5, none)
theorem mdJ7_fill_d0a16 : Md mJ7_fill_d0a16 := ⟨inW3 (i := 236) rfl rfl, inW1 (i := 12) (by decide +kernel) rfl, ⟨by decide +kernel, by decide +kernel⟩, by decide, by decide +kernel⟩
theorem npJ7_fill_d0a16 : (parseMethodDescriptor mJ7_fill_d0a16.1.desc).map (fun d => d.parameters.length) = some 2 := by decide +kernel
theorem smJ7_fill_d0a16 : Cond.static yJ7_fill_d0a16 ∈ Wg := inW3 (i := 235) (by decide +kernel) rfl
def mJ7_fill_53178 : MD := (yJ7_fill_53178, cJ7_fill_53178, 4, none)
theorem mdJ7_fill_53178 : Md mJ7_fill_53178 := ⟨inW2 (i := 193) rfl rfl, inW1 (i := 12) (by decide +kernel) rfl, ⟨by decide +kernel, by decide +kernel⟩, by decide, by decide +kernel⟩
theorem npJ7_fill_53178 : (parseMethodDescriptor mJ7_fill_53178.1.desc).map (fun d => d.parameters.length) = some 2 := by decide +kernel
theorem smJ7_fill_53178 : Cond.static yJ7_fill_53178 ∈ Wg := inW2 (i := 192) (by decide +kernel) rfl
def mJ7_copyOf_59c91 : MD := (yJ7_copyOf_59c91, cJ7_copyOf_59c91, 3, (some (.array .int)))
theorem mdJ7_copyOf_59c91 : Md mJ7_copyOf_59c91 := ⟨inW5 (i := 128) rfl rfl, inW1 (i := 12) (by decide +kernel) rfl, ⟨by decide +kernel, by decide +kernel⟩, by decide, by decide +kernel⟩
theorem npJ7_copyOf_59c91 : (parseMethodDescriptor mJ7_copyOf_59c91.1.desc).map (fun d => d.parameters.length) = some 2 := by decide +kernel
theorem smJ7_copyOf_59c91 : Cond.static yJ7_copyOf_59c91 ∈ Wg := inW5 (i := 127) (by decide +kernel) rfl
def mJ3_checkIndex_8e157 : MD := (yJ3_checkIndex_8e157, cJ3_checkIndex_8e157, 3, (some .int))
theorem mdJ3_checkIndex_8e157 : Md mJ3_checkIndex_8e157 := ⟨inW3 (i := 16) rfl rfl, inW1 (i := 16) (by decide +kernel) rfl, ⟨by decide +kernel, by decide +kernel⟩, by decide, by decide +kernel⟩
theorem npJ3_checkIndex_8e157 : (parseMethodDescriptor mJ3_checkIndex_8e157.1.desc).map (fun d => d.parameters.length) = some 3 := by decide +kernel
theorem smJ3_checkIndex_8e157 : Cond.static yJ3_checkIndex_8e157 ∈ Wg := inW3 (i := 15) (by decide +kernel) rfl
def mJxe99ae_isNaN_b9ae7 : MD := (yJxe99ae_isNaN_b9ae7, cJxe99ae_isNaN_b9ae7, 2, (some .boolean))
theorem mdJxe99ae_isNaN_b9ae7 : Md mJxe99ae_isNaN_b9ae7 := ⟨inW8 (i := 26) rfl rfl, inW1 (i := 22) (by decide +kernel) rfl, ⟨by decide +kernel, by decide +kernel⟩, by decide, by decide +kernel⟩
theorem npJxe99ae_isNaN_b9ae7 : (parseMethodDescriptor mJxe99ae_isNaN_b9ae7.1.desc).map (fun d => d.parameters.length) = some 1 := by decide +kernel
theorem smJxe99ae_isNaN_b9ae7 : Cond.static yJxe99ae_isNaN_b9ae7 ∈ Wg := inW8 (i := 25) (by decide +kernel) rfl
def mJxe99ae_doubleToLongBits_ccdee : MD := (yJxe99ae_doubleToLongBits_ccdee, cJxe99ae_doubleToLongBits_ccdee, 2, (some .long))
theorem mdJxe99ae_doubleToLongBits_ccdee : Md mJxe99ae_doubleToLongBits_ccdee := ⟨inW8 (i := 23) rfl rfl, inW1 (i := 22) (by decide +kernel) rfl, ⟨by decide +kernel, by decide +kernel⟩, by decide, by decide +kernel⟩
theorem npJxe99ae_doubleToLongBits_ccdee : (parseMethodDescriptor mJxe99ae_doubleToLongBits_ccdee.1.desc).map (fun d => d.parameters.length) = some 1 := by decide +kernel
theorem smJxe99ae_doubleToLongBits_ccdee : Cond.static yJxe99ae_doubleToLongBits_ccdee ∈ Wg := inW8 (i := 22) (by decide +kernel) rfl
def mJxf58ca_isNaN_12338 : MD := (yJxf58ca_isNaN_12338, cJxf58ca_isNaN_12338, 1, (some .boolean))
theorem mdJxf58ca_isNaN_12338 : Md mJxf58ca_isNaN_12338 := ⟨inW8 (i := 40) rfl rfl, inW1 (i := 23) (by decide +kernel) rfl, ⟨by decide +kernel, by decide +kernel⟩, by decide, by decide +kernel⟩
theorem npJxf58ca_isNaN_12338 : (parseMethodDescriptor mJxf58ca_isNaN_12338.1.desc).map (fun d => d.parameters.length) = some 1 := by decide +kernel
theorem smJxf58ca_isNaN_12338 : Cond.static yJxf58ca_isNaN_12338 ∈ Wg := inW8 (i := 39) (by decide +kernel) rfl
def mJxf58ca_floatToIntBits_5c35a : MD := (yJxf58ca_floatToIntBits_5c35a, cJxf58ca_floatToIntBits_5c35a, 1, (some .int))
theorem mdJxf58ca_floatToIntBits_5c35a : Md mJxf58ca_floatToIntBits_5c35a := ⟨inW8 (i := 37) rfl rfl, inW1 (i := 23) (by decide +kernel) rfl, ⟨by decide +kernel, by decide +kernel⟩, by decide, by decide +kernel⟩
theorem npJxf58ca_floatToIntBits_5c35a : (parseMethodDescriptor mJxf58ca_floatToIntBits_5c35a.1.desc).map (fun d => d.parameters.length) = some 1 := by decide +kernel
theorem smJxf58ca_floatToIntBits_5c35a : Cond.static yJxf58ca_floatToIntBits_5c35a ∈ Wg := inW8 (i := 36) (by decide +kernel) rfl
def mL_law : MD := (x, code, 4, (some .boolean))
theorem clL_7 : Cond.classLink RL 7 "CountTables" ∈ Wg := inW1 (i := 25) (by decide +kernel) rfl
theorem mlL_9 : Cond.methodLink RL 9 yX11_init ∈ Wg := inW1 (i := 27) (by decide +kernel) rfl
theorem mlX11_3 : Cond.methodLink RX11 3 ⟨"java/lang/Object", "<init>", "()V"⟩ ∈ Wg := inW1 (i := 30) (by decide +kernel) rfl
theorem clX11_9 : Cond.classLink RX11 9 "CountTables$Tape" ∈ Wg := inW1 (i := 33) (by decide +kernel) rfl
theorem mlX10_1 : Cond.methodLink RX10 1 ⟨"java/lang/Object", "<init>", "()V"⟩ ∈ Wg := inW1 (i := 38) (by decide +kernel) rfl
theorem flX10_9 : Fl RX10 9 8 0 2 := ⟨(RX10, TX10, 2), rfl, wcl_8, by decide, rfl, inW1 (i := 39) (by decide +kernel) rfl, rfl⟩
theorem flX10_13 : Fl RX10 13 8 1 0 := ⟨(RX10, TX10, 2), rfl, wcl_8, by decide, rfl, inW1 (i := 40) (by decide +kernel) rfl, rfl⟩
theorem flX11_77 : Fl RX11 77 8 1 0 := ⟨(RX10, TX10, 2), rfl, wcl_8, by decide, rfl, inW1 (i := 41) (by decide +kernel) rfl, rfl⟩
theorem flX8_122 : Fl RX8 122 8 1 0 := ⟨(RX10, TX10, 2), rfl, wcl_8, by decide, rfl, inW1 (i := 42) (by decide +kernel) rfl, rfl⟩
theorem clX11_16 : Cond.classLink RX11 16 "CountTables$Reader" ∈ Wg := inW1 (i := 49) (by decide +kernel) rfl
theorem mlX8_3 : Cond.methodLink RX8 3 ⟨"java/lang/Object", "<init>", "()V"⟩ ∈ Wg := inW1 (i := 54) (by decide +kernel) rfl
theorem flX8_19 : Fl RX8 19 6 0 0 := ⟨(RX8, TX8, 12), rfl, wcl_6, by decide, rfl, inW1 (i := 55) (by decide +kernel) rfl, rfl⟩
theorem flX11_104 : Fl RX11 104 6 0 0 := ⟨(RX8, TX8, 12), rfl, wcl_6, by decide, rfl, inW1 (i := 56) (by decide +kernel) rfl, rfl⟩
theorem flX8_9 : Fl RX8 9 6 1 0 := ⟨(RX8, TX8, 12), rfl, wcl_6, by decide, rfl, inW1 (i := 57) (by decide +kernel) rfl, rfl⟩
theorem flX11_107 : Fl RX11 107 6 1 0 := ⟨(RX8, TX8, 12), rfl, wcl_6, by decide, rfl, inW1 (i := 58) (by decide +kernel) rfl, rfl⟩
theorem flX9_22 : Fl RX9 22 6 2 0 := ⟨(RX8, TX8, 12), rfl, wcl_6, by decide, rfl, inW1 (i := 59) (by decide +kernel) rfl, rfl⟩
theorem flX8_22 : Fl RX8 22 6 2 0 := ⟨(RX8, TX8, 12), rfl, wcl_6, by decide, rfl, inW1 (i := 60) (by decide +kernel) rfl, rfl⟩
theorem flX9_29 : Fl RX9 29 6 3 0 := ⟨(RX8, TX8, 12), rfl, wcl_6, by decide, rfl, inW1 (i := 61) (by decide +kernel) rfl, rfl⟩
theorem flX8_25 : Fl RX8 25 6 3 0 := ⟨(RX8, TX8, 12), rfl, wcl_6, by decide, rfl, inW1 (i := 62) (by decide +kernel) rfl, rfl⟩
theorem flX9_33 : Fl RX9 33 6 4 0 := ⟨(RX8, TX8, 12), rfl, wcl_6, by decide, rfl, inW1 (i := 63) (by decide +kernel) rfl, rfl⟩
theorem flX8_28 : Fl RX8 28 6 4 0 := ⟨(RX8, TX8, 12), rfl, wcl_6, by decide, rfl, inW1 (i := 64) (by decide +kernel) rfl, rfl⟩
theorem flX9_37 : Fl RX9 37 6 5 0 := ⟨(RX8, TX8, 12), rfl, wcl_6, by decide, rfl, inW1 (i := 65) (by decide +kernel) rfl, rfl⟩
theorem flX8_31 : Fl RX8 31 6 5 0 := ⟨(RX8, TX8, 12), rfl, wcl_6, by decide, rfl, inW1 (i := 66) (by decide +kernel) rfl, rfl⟩
theorem flX8_15 : Fl RX8 15 6 6 2 := ⟨(RX8, TX8, 12), rfl, wcl_6, by decide, rfl, inW1 (i := 67) (by decide +kernel) rfl, rfl⟩
theorem flX8_34 : Fl RX8 34 6 7 0 := ⟨(RX8, TX8, 12), rfl, wcl_6, by decide, rfl, inW1 (i := 68) (by decide +kernel) rfl, rfl⟩
theorem flX8_50 : Fl RX8 50 6 8 0 := ⟨(RX8, TX8, 12), rfl, wcl_6, by decide, rfl, inW1 (i := 69) (by decide +kernel) rfl, rfl⟩
theorem flX8_103 : Fl RX8 103 6 9 0 := ⟨(RX8, TX8, 12), rfl, wcl_6, by decide, rfl, inW1 (i := 70) (by decide +kernel) rfl, rfl⟩
theorem flX8_37 : Fl RX8 37 6 10 0 := ⟨(RX8, TX8, 12), rfl, wcl_6, by decide, rfl, inW1 (i := 71) (by decide +kernel) rfl, rfl⟩
theorem flX8_81 : Fl RX8 81 6 11 0 := ⟨(RX8, TX8, 12), rfl, wcl_6, by decide, rfl, inW1 (i := 72) (by decide +kernel) rfl, rfl⟩
theorem clX11_23 : Cond.classLink RX11 23 "CountTables$Sheet" ∈ Wg := inW1 (i := 98) (by decide +kernel) rfl
theorem mlX9_3 : Cond.methodLink RX9 3 ⟨"java/lang/Object", "<init>", "()V"⟩ ∈ Wg := inW1 (i := 103) (by decide +kernel) rfl
theorem flX1_53 : Fl RX1 53 7 0 0 := ⟨(RX9, TX9, 10), rfl, wcl_7, by decide, rfl, inW1 (i := 104) (by decide +kernel) rfl, rfl⟩
theorem flX9_28 : Fl RX9 28 7 0 0 := ⟨(RX9, TX9, 10), rfl, wcl_7, by decide, rfl, inW1 (i := 105) (by decide +kernel) rfl, rfl⟩
theorem flX5_27 : Fl RX5 27 7 0 0 := ⟨(RX9, TX9, 10), rfl, wcl_7, by decide, rfl, inW1 (i := 106) (by decide +kernel) rfl, rfl⟩
theorem flX2_42 : Fl RX2 42 7 0 0 := ⟨(RX9, TX9, 10), rfl, wcl_7, by decide, rfl, inW1 (i := 107) (by decide +kernel) rfl, rfl⟩
theorem flX11_110 : Fl RX11 110 7 0 0 := ⟨(RX9, TX9, 10), rfl, wcl_7, by decide, rfl, inW1 (i := 108) (by decide +kernel) rfl, rfl⟩
theorem flX9_32 : Fl RX9 32 7 1 0 := ⟨(RX9, TX9, 10), rfl, wcl_7, by decide, rfl, inW1 (i := 109) (by decide +kernel) rfl, rfl⟩
theorem flX5_32 : Fl RX5 32 7 1 0 := ⟨(RX9, TX9, 10), rfl, wcl_7, by decide, rfl, inW1 (i := 110) (by decide +kernel) rfl, rfl⟩
theorem flX11_113 : Fl RX11 113 7 1 0 := ⟨(RX9, TX9, 10), rfl, wcl_7, by decide, rfl, inW1 (i := 111) (by decide +kernel) rfl, rfl⟩
theorem flX2_74 : Fl RX2 74 7 1 0 := ⟨(RX9, TX9, 10), rfl, wcl_7, by decide, rfl, inW1 (i := 112) (by decide +kernel) rfl, rfl⟩
theorem flX9_36 : Fl RX9 36 7 2 0 := ⟨(RX9, TX9, 10), rfl, wcl_7, by decide, rfl, inW1 (i := 113) (by decide +kernel) rfl, rfl⟩
theorem flX11_101 : Fl RX11 101 7 2 0 := ⟨(RX9, TX9, 10), rfl, wcl_7, by decide, rfl, inW1 (i := 114) (by decide +kernel) rfl, rfl⟩
theorem flX9_41 : Fl RX9 41 7 3 0 := ⟨(RX9, TX9, 10), rfl, wcl_7, by decide, rfl, inW1 (i := 115) (by decide +kernel) rfl, rfl⟩
theorem flX11_116 : Fl RX11 116 7 3 0 := ⟨(RX9, TX9, 10), rfl, wcl_7, by decide, rfl, inW1 (i := 116) (by decide +kernel) rfl, rfl⟩
theorem flX9_40 : Fl RX9 40 7 4 0 := ⟨(RX9, TX9, 10), rfl, wcl_7, by decide, rfl, inW1 (i := 117) (by decide +kernel) rfl, rfl⟩
theorem flX11_119 : Fl RX11 119 7 4 0 := ⟨(RX9, TX9, 10), rfl, wcl_7, by decide, rfl, inW1 (i := 118) (by decide +kernel) rfl, rfl⟩
theorem flX9_44 : Fl RX9 44 7 7 1 := ⟨(RX9, TX9, 10), rfl, wcl_7, by decide, rfl, inW1 (i := 119) (by decide +kernel) rfl, rfl⟩
theorem flX11_154 : Fl RX11 154 7 7 1 := ⟨(RX9, TX9, 10), rfl, wcl_7, by decide, rfl, inW1 (i := 120) (by decide +kernel) rfl, rfl⟩
theorem flX9_48 : Fl RX9 48 7 8 0 := ⟨(RX9, TX9, 10), rfl, wcl_7, by decide, rfl, inW1 (i := 121) (by decide +kernel) rfl, rfl⟩
theorem flX11_128 : Fl RX11 128 7 8 0 := ⟨(RX9, TX9, 10), rfl, wcl_7, by decide, rfl, inW1 (i := 122) (by decide +kernel) rfl, rfl⟩
theorem flX9_9 : Fl RX9 9 7 5 2 := ⟨(RX9, TX9, 10), rfl, wcl_7, by decide, rfl, inW1 (i := 123) (by decide +kernel) rfl, rfl⟩
theorem flX9_15 : Fl RX9 15 7 6 2 := ⟨(RX9, TX9, 10), rfl, wcl_7, by decide, rfl, inW1 (i := 124) (by decide +kernel) rfl, rfl⟩
theorem flX9_18 : Fl RX9 18 7 9 2 := ⟨(RX9, TX9, 10), rfl, wcl_7, by decide, rfl, inW1 (i := 125) (by decide +kernel) rfl, rfl⟩
theorem clX11_30 : Cond.classLink RX11 30 "CountTables$Dice" ∈ Wg := inW1 (i := 148) (by decide +kernel) rfl
theorem mlX0_1 : Cond.methodLink RX0 1 ⟨"java/lang/Object", "<init>", "()V"⟩ ∈ Wg := inW1 (i := 153) (by decide +kernel) rfl
theorem flX0_7 : Fl RX0 7 0 0 1 := ⟨(RX0, TX0, 1), rfl, wcl_0, by decide, rfl, inW1 (i := 154) (by decide +kernel) rfl, rfl⟩
theorem clX11_37 : Cond.classLink RX11 37 "CountTables$Moves" ∈ Wg := inW1 (i := 158) (by decide +kernel) rfl
theorem mlX5_3 : Cond.methodLink RX5 3 ⟨"java/lang/Object", "<init>", "()V"⟩ ∈ Wg := inW1 (i := 163) (by decide +kernel) rfl
theorem flX5_42 : Fl RX5 42 4 0 0 := ⟨(RX5, TX5, 7), rfl, wcl_4, by decide, rfl, inW1 (i := 164) (by decide +kernel) rfl, rfl⟩
theorem flX6_104 : Fl RX6 104 4 0 0 := ⟨(RX5, TX5, 7), rfl, wcl_4, by decide, rfl, inW1 (i := 165) (by decide +kernel) rfl, rfl⟩
theorem flX5_23 : Fl RX5 23 4 1 0 := ⟨(RX5, TX5, 7), rfl, wcl_4, by decide, rfl, inW1 (i := 166) (by decide +kernel) rfl, rfl⟩
theorem flX6_176 : Fl RX6 176 4 1 0 := ⟨(RX5, TX5, 7), rfl, wcl_4, by decide, rfl, inW1 (i := 167) (by decide +kernel) rfl, rfl⟩
theorem flX5_35 : Fl RX5 35 4 2 0 := ⟨(RX5, TX5, 7), rfl, wcl_4, by decide, rfl, inW1 (i := 168) (by decide +kernel) rfl, rfl⟩
theorem flX6_191 : Fl RX6 191 4 2 0 := ⟨(RX5, TX5, 7), rfl, wcl_4, by decide, rfl, inW1 (i := 169) (by decide +kernel) rfl, rfl⟩
theorem flX5_9 : Fl RX5 9 4 3 2 := ⟨(RX5, TX5, 7), rfl, wcl_4, by decide, rfl, inW1 (i := 170) (by decide +kernel) rfl, rfl⟩
theorem flX5_13 : Fl RX5 13 4 4 2 := ⟨(RX5, TX5, 7), rfl, wcl_4, by decide, rfl, inW1 (i := 171) (by decide +kernel) rfl, rfl⟩
theorem flX5_17 : Fl RX5 17 4 5 2 := ⟨(RX5, TX5, 7), rfl, wcl_4, by decide, rfl, inW1 (i := 172) (by decide +kernel) rfl, rfl⟩
theorem flX5_20 : Fl RX5 20 4 6 2 := ⟨(RX5, TX5, 7), rfl, wcl_4, by decide, rfl, inW1 (i := 173) (by decide +kernel) rfl, rfl⟩
theorem clX11_44 : Cond.classLink RX11 44 "CountTables$Fiber" ∈ Wg := inW1 (i := 189) (by decide +kernel) rfl
theorem mlX1_3 : Cond.methodLink RX1 3 ⟨"java/lang/Object", "<init>", "()V"⟩ ∈ Wg := inW1 (i := 194) (by decide +kernel) rfl
theorem clX1_9 : Cond.classLink RX1 9 "CountTables$Fills" ∈ Wg := inW1 (i := 195) (by decide +kernel) rfl
theorem mlX2_3 : Cond.methodLink RX2 3 ⟨"java/lang/Object", "<init>", "()V"⟩ ∈ Wg := inW1 (i := 200) (by decide +kernel) rfl
theorem flX2_9 : Fl RX2 9 2 0 2 := ⟨(RX2, TX2, 8), rfl, wcl_2, by decide, rfl, inW1 (i := 201) (by decide +kernel) rfl, rfl⟩
theorem flX2_15 : Fl RX2 15 2 1 2 := ⟨(RX2, TX2, 8), rfl, wcl_2, by decide, rfl, inW1 (i := 202) (by decide +kernel) rfl, rfl⟩
theorem flX1_172 : Fl RX1 172 2 1 2 := ⟨(RX2, TX2, 8), rfl, wcl_2, by decide, rfl, inW1 (i := 203) (by decide +kernel) rfl, rfl⟩
theorem flX2_18 : Fl RX2 18 2 2 2 := ⟨(RX2, TX2, 8), rfl, wcl_2, by decide, rfl, inW1 (i := 204) (by decide +kernel) rfl, rfl⟩
theorem flX1_122 : Fl RX1 122 2 2 2 := ⟨(RX2, TX2, 8), rfl, wcl_2, by decide, rfl, inW1 (i := 205) (by decide +kernel) rfl, rfl⟩
theorem flX2_21 : Fl RX2 21 2 3 2 := ⟨(RX2, TX2, 8), rfl, wcl_2, by decide, rfl, inW1 (i := 206) (by decide +kernel) rfl, rfl⟩
theorem flX1_126 : Fl RX1 126 2 3 2 := ⟨(RX2, TX2, 8), rfl, wcl_2, by decide, rfl, inW1 (i := 207) (by decide +kernel) rfl, rfl⟩
theorem flX2_24 : Fl RX2 24 2 4 2 := ⟨(RX2, TX2, 8), rfl, wcl_2, by decide, rfl, inW1 (i := 208) (by decide +kernel) rfl, rfl⟩
theorem flX2_28 : Fl RX2 28 2 5 2 := ⟨(RX2, TX2, 8), rfl, wcl_2, by decide, rfl, inW1 (i := 209) (by decide +kernel) rfl, rfl⟩
theorem flX2_77 : Fl RX2 77 2 6 1 := ⟨(RX2, TX2, 8), rfl, wcl_2, by decide, rfl, inW1 (i := 210) (by decide +kernel) rfl, rfl⟩
theorem flX2_38 : Fl RX2 38 2 7 0 := ⟨(RX2, TX2, 8), rfl, wcl_2, by decide, rfl, inW1 (i := 211) (by decide +kernel) rfl, rfl⟩
theorem flX1_12 : Fl RX1 12 1 0 2 := ⟨(RX1, TX1, 15), rfl, wcl_1, by decide, rfl, inW1 (i := 229) (by decide +kernel) rfl, rfl⟩
theorem flX1_59 : Fl RX1 59 1 1 0 := ⟨(RX1, TX1, 15), rfl, wcl_1, by decide, rfl, inW1 (i := 230) (by decide +kernel) rfl, rfl⟩
theorem flX4_44 : Fl RX4 44 1 1 0 := ⟨(RX1, TX1, 15), rfl, wcl_1, by decide, rfl, inW1 (i := 231) (by decide +kernel) rfl, rfl⟩
theorem flX1_60 : Fl RX1 60 1 2 0 := ⟨(RX1, TX1, 15), rfl, wcl_1, by decide, rfl, inW1 (i := 232) (by decide +kernel) rfl, rfl⟩
theorem flX4_116 : Fl RX4 116 1 2 0 := ⟨(RX1, TX1, 15), rfl, wcl_1, by decide, rfl, inW1 (i := 233) (by decide +kernel) rfl, rfl⟩
theorem flX1_18 : Fl RX1 18 1 3 2 := ⟨(RX1, TX1, 15), rfl, wcl_1, by decide, rfl, inW1 (i := 234) (by decide +kernel) rfl, rfl⟩
theorem flX1_22 : Fl RX1 22 1 4 2 := ⟨(RX1, TX1, 15), rfl, wcl_1, by decide, rfl, inW1 (i := 235) (by decide +kernel) rfl, rfl⟩
theorem flX1_25 : Fl RX1 25 1 5 2 := ⟨(RX1, TX1, 15), rfl, wcl_1, by decide, rfl, inW1 (i := 236) (by decide +kernel) rfl, rfl⟩
theorem flX1_28 : Fl RX1 28 1 6 2 := ⟨(RX1, TX1, 15), rfl, wcl_1, by decide, rfl, inW1 (i := 237) (by decide +kernel) rfl, rfl⟩
theorem flX4_130 : Fl RX4 130 1 6 2 := ⟨(RX1, TX1, 15), rfl, wcl_1, by decide, rfl, inW1 (i := 238) (by decide +kernel) rfl, rfl⟩
theorem flX1_31 : Fl RX1 31 1 7 2 := ⟨(RX1, TX1, 15), rfl, wcl_1, by decide, rfl, inW1 (i := 239) (by decide +kernel) rfl, rfl⟩
theorem flX4_151 : Fl RX4 151 1 7 2 := ⟨(RX1, TX1, 15), rfl, wcl_1, by decide, rfl, inW2 (i := 0) (by decide +kernel) rfl, rfl⟩
theorem flX1_35 : Fl RX1 35 1 8 2 := ⟨(RX1, TX1, 15), rfl, wcl_1, by decide, rfl, inW2 (i := 1) (by decide +kernel) rfl, rfl⟩
theorem flX4_154 : Fl RX4 154 1 8 2 := ⟨(RX1, TX1, 15), rfl, wcl_1, by decide, rfl, inW2 (i := 2) (by decide +kernel) rfl, rfl⟩
theorem flX1_38 : Fl RX1 38 1 9 2 := ⟨(RX1, TX1, 15), rfl, wcl_1, by decide, rfl, inW2 (i := 3) (by decide +kernel) rfl, rfl⟩
theorem flX1_41 : Fl RX1 41 1 10 2 := ⟨(RX1, TX1, 15), rfl, wcl_1, by decide, rfl, inW2 (i := 4) (by decide +kernel) rfl, rfl⟩
theorem flX1_44 : Fl RX1 44 1 11 2 := ⟨(RX1, TX1, 15), rfl, wcl_1, by decide, rfl, inW2 (i := 5) (by decide +kernel) rfl, rfl⟩
theorem flX1_47 : Fl RX1 47 1 12 2 := ⟨(RX1, TX1, 15), rfl, wcl_1, by decide, rfl, inW2 (i := 6) (by decide +kernel) rfl, rfl⟩
theorem flX1_50 : Fl RX1 50 1 13 2 := ⟨(RX1, TX1, 15), rfl, wcl_1, by decide, rfl, inW2 (i := 7) (by decide +kernel) rfl, rfl⟩
theorem flX1_63 : Fl RX1 63 1 14 0 := ⟨(RX1, TX1, 15), rfl, wcl_1, by decide, rfl, inW2 (i := 8) (by decide +kernel) rfl, rfl⟩
theorem clX11_51 : Cond.classLink RX11 51 "CountTables$Measures" ∈ Wg := inW2 (i := 40) (by decide +kernel) rfl
theorem mlX11_53 : Cond.methodLink RX11 53 yX4_init ∈ Wg := inW2 (i := 42) (by decide +kernel) rfl
theorem mlX4_5 : Cond.methodLink RX4 5 ⟨"java/lang/Object", "<init>", "()V"⟩ ∈ Wg := inW2 (i := 45) (by decide +kernel) rfl
theorem flX4_36 : Fl RX4 36 3 0 2 := ⟨(RX4, TX4, 11), rfl, wcl_3, by decide, rfl, inW2 (i := 46) (by decide +kernel) rfl, rfl⟩
theorem flX4_13 : Fl RX4 13 3 1 2 := ⟨(RX4, TX4, 11), rfl, wcl_3, by decide, rfl, inW2 (i := 47) (by decide +kernel) rfl, rfl⟩
theorem flX4_17 : Fl RX4 17 3 2 2 := ⟨(RX4, TX4, 11), rfl, wcl_3, by decide, rfl, inW2 (i := 48) (by decide +kernel) rfl, rfl⟩
theorem flX4_20 : Fl RX4 20 3 3 2 := ⟨(RX4, TX4, 11), rfl, wcl_3, by decide, rfl, inW2 (i := 49) (by decide +kernel) rfl, rfl⟩
theorem flX4_24 : Fl RX4 24 3 4 2 := ⟨(RX4, TX4, 11), rfl, wcl_3, by decide, rfl, inW2 (i := 50) (by decide +kernel) rfl, rfl⟩
theorem flX4_27 : Fl RX4 27 3 5 2 := ⟨(RX4, TX4, 11), rfl, wcl_3, by decide, rfl, inW2 (i := 51) (by decide +kernel) rfl, rfl⟩
theorem flX4_30 : Fl RX4 30 3 6 2 := ⟨(RX4, TX4, 11), rfl, wcl_3, by decide, rfl, inW2 (i := 52) (by decide +kernel) rfl, rfl⟩
theorem flX4_33 : Fl RX4 33 3 7 2 := ⟨(RX4, TX4, 11), rfl, wcl_3, by decide, rfl, inW2 (i := 53) (by decide +kernel) rfl, rfl⟩
theorem flX4_137 : Fl RX4 137 3 8 1 := ⟨(RX4, TX4, 11), rfl, wcl_3, by decide, rfl, inW2 (i := 54) (by decide +kernel) rfl, rfl⟩
theorem flX4_141 : Fl RX4 141 3 9 1 := ⟨(RX4, TX4, 11), rfl, wcl_3, by decide, rfl, inW2 (i := 55) (by decide +kernel) rfl, rfl⟩
theorem flX4_144 : Fl RX4 144 3 10 1 := ⟨(RX4, TX4, 11), rfl, wcl_3, by decide, rfl, inW2 (i := 56) (by decide +kernel) rfl, rfl⟩
theorem clX11_60 : Cond.classLink RX11 60 "CountTables$Net" ∈ Wg := inW2 (i := 81) (by decide +kernel) rfl
theorem mlX11_62 : Cond.methodLink RX11 62 yX6_init ∈ Wg := inW2 (i := 83) (by decide +kernel) rfl
theorem mlX6_5 : Cond.methodLink RX6 5 ⟨"java/lang/Object", "<init>", "()V"⟩ ∈ Wg := inW2 (i := 86) (by decide +kernel) rfl
theorem flX6_42 : Fl RX6 42 5 0 2 := ⟨(RX6, TX6, 18), rfl, wcl_5, by decide, rfl, inW2 (i := 87) (by decide +kernel) rfl, rfl⟩
theorem flX6_46 : Fl RX6 46 5 1 2 := ⟨(RX6, TX6, 18), rfl, wcl_5, by decide, rfl, inW2 (i := 88) (by decide +kernel) rfl, rfl⟩
theorem flX6_50 : Fl RX6 50 5 2 3 := ⟨(RX6, TX6, 18), rfl, wcl_5, by decide, rfl, inW2 (i := 89) (by decide +kernel) rfl, rfl⟩
theorem flX6_75 : Fl RX6 75 5 3 0 := ⟨(RX6, TX6, 18), rfl, wcl_5, by decide, rfl, inW2 (i := 90) (by decide +kernel) rfl, rfl⟩
theorem flX6_11 : Fl RX6 11 5 4 2 := ⟨(RX6, TX6, 18), rfl, wcl_5, by decide, rfl, inW2 (i := 91) (by decide +kernel) rfl, rfl⟩
theorem flX6_17 : Fl RX6 17 5 5 2 := ⟨(RX6, TX6, 18), rfl, wcl_5, by decide, rfl, inW2 (i := 92) (by decide +kernel) rfl, rfl⟩
theorem flX6_21 : Fl RX6 21 5 6 2 := ⟨(RX6, TX6, 18), rfl, wcl_5, by decide, rfl, inW2 (i := 93) (by decide +kernel) rfl, rfl⟩
theorem flX6_87 : Fl RX6 87 5 7 0 := ⟨(RX6, TX6, 18), rfl, wcl_5, by decide, rfl, inW2 (i := 94) (by decide +kernel) rfl, rfl⟩
theorem flX6_24 : Fl RX6 24 5 8 2 := ⟨(RX6, TX6, 18), rfl, wcl_5, by decide, rfl, inW2 (i := 95) (by decide +kernel) rfl, rfl⟩
theorem flX6_27 : Fl RX6 27 5 9 2 := ⟨(RX6, TX6, 18), rfl, wcl_5, by decide, rfl, inW2 (i := 96) (by decide +kernel) rfl, rfl⟩
theorem flX6_143 : Fl RX6 143 5 10 0 := ⟨(RX6, TX6, 18), rfl, wcl_5, by decide, rfl, inW2 (i := 97) (by decide +kernel) rfl, rfl⟩
theorem flX6_58 : Fl RX6 58 5 11 0 := ⟨(RX6, TX6, 18), rfl, wcl_5, by decide, rfl, inW2 (i := 98) (by decide +kernel) rfl, rfl⟩
theorem flX6_30 : Fl RX6 30 5 12 2 := ⟨(RX6, TX6, 18), rfl, wcl_5, by decide, rfl, inW2 (i := 99) (by decide +kernel) rfl, rfl⟩
theorem flX6_54 : Fl RX6 54 5 13 0 := ⟨(RX6, TX6, 18), rfl, wcl_5, by decide, rfl, inW2 (i := 100) (by decide +kernel) rfl, rfl⟩
theorem flX6_33 : Fl RX6 33 5 14 2 := ⟨(RX6, TX6, 18), rfl, wcl_5, by decide, rfl, inW2 (i := 101) (by decide +kernel) rfl, rfl⟩
theorem flX6_153 : Fl RX6 153 5 15 0 := ⟨(RX6, TX6, 18), rfl, wcl_5, by decide, rfl, inW2 (i := 102) (by decide +kernel) rfl, rfl⟩
theorem flX6_36 : Fl RX6 36 5 16 2 := ⟨(RX6, TX6, 18), rfl, wcl_5, by decide, rfl, inW2 (i := 103) (by decide +kernel) rfl, rfl⟩
theorem flX6_39 : Fl RX6 39 5 17 2 := ⟨(RX6, TX6, 18), rfl, wcl_5, by decide, rfl, inW2 (i := 104) (by decide +kernel) rfl, rfl⟩
theorem flX11_12 : Fl RX11 12 9 0 2 := ⟨(RX11, TX11, 8), rfl, wcl_9, by decide, rfl, inW2 (i := 142) (by decide +kernel) rfl, rfl⟩
theorem flX11_19 : Fl RX11 19 9 1 2 := ⟨(RX11, TX11, 8), rfl, wcl_9, by decide, rfl, inW2 (i := 143) (by decide +kernel) rfl, rfl⟩
theorem flX11_26 : Fl RX11 26 9 2 2 := ⟨(RX11, TX11, 8), rfl, wcl_9, by decide, rfl, inW2 (i := 144) (by decide +kernel) rfl, rfl⟩
theorem flX11_33 : Fl RX11 33 9 3 2 := ⟨(RX11, TX11, 8), rfl, wcl_9, by decide, rfl, inW2 (i := 145) (by decide +kernel) rfl, rfl⟩
theorem flX11_40 : Fl RX11 40 9 4 2 := ⟨(RX11, TX11, 8), rfl, wcl_9, by decide, rfl, inW2 (i := 146) (by decide +kernel) rfl, rfl⟩
theorem flX11_47 : Fl RX11 47 9 5 2 := ⟨(RX11, TX11, 8), rfl, wcl_9, by decide, rfl, inW2 (i := 147) (by decide +kernel) rfl, rfl⟩
theorem flX11_56 : Fl RX11 56 9 6 2 := ⟨(RX11, TX11, 8), rfl, wcl_9, by decide, rfl, inW2 (i := 148) (by decide +kernel) rfl, rfl⟩
theorem flX11_65 : Fl RX11 65 9 7 2 := ⟨(RX11, TX11, 8), rfl, wcl_9, by decide, rfl, inW2 (i := 149) (by decide +kernel) rfl, rfl⟩
theorem mlL_13 : Cond.methodLink RL 13 yX11_feed ∈ Wg := inW2 (i := 167) (by decide +kernel) rfl
theorem mlX11_69 : Cond.methodLink RX11 69 yX10_hasRoom ∈ Wg := inW2 (i := 171) (by decide +kernel) rfl
theorem mlX11_73 : Cond.methodLink RX11 73 yX10_put ∈ Wg := inW2 (i := 175) (by decide +kernel) rfl
theorem mlL_18 : Cond.methodLink RL 18 yX11_end ∈ Wg := inW2 (i := 179) (by decide +kernel) rfl
theorem mlL_23 : Cond.methodLink RL 23 yX11_table ∈ Wg := inW2 (i := 183) (by decide +kernel) rfl
theorem mlX11_81 : Cond.methodLink RX11 81 yX8_read ∈ Wg := inW2 (i := 187) (by decide +kernel) rfl
theorem mlX8_40 : Cond.methodLink RX8 40 yJ7_fill_53178 ∈ Wg := inW2 (i := 191) (by decide +kernel) rfl
theorem mlX8_46 : Cond.methodLink RX8 46 yX8_advance ∈ Wg := inW2 (i := 194) (by decide +kernel) rfl
theorem mlX8_112 : Cond.methodLink RX8 112 yX10_byteAt ∈ Wg := inW2 (i := 198) (by decide +kernel) rfl
theorem mlX8_124 : Cond.methodLink RX8 124 yX8_isBlank ∈ Wg := inW2 (i := 202) (by decide +kernel) rfl
theorem mlX8_127 : Cond.methodLink RX8 127 yX8_kindOf ∈ Wg := inW2 (i := 205) (by decide +kernel) rfl
theorem mlX8_131 : Cond.methodLink RX8 131 yX8_numberIn ∈ Wg := inW2 (i := 208) (by decide +kernel) rfl
theorem mlX8_135 : Cond.methodLink RX8 135 yJ9_min_7cf53 ∈ Wg := inW2 (i := 212) (by decide +kernel) rfl
theorem mlX8_53 : Cond.methodLink RX8 53 yX8_readSizes ∈ Wg := inW2 (i := 215) (by decide +kernel) rfl
theorem mlX8_72 : Cond.methodLink RX8 72 yX8_passWord ∈ Wg := inW2 (i := 220) (by decide +kernel) rfl
theorem mlX8_100 : Cond.methodLink RX8 100 yX8_isWord ∈ Wg := inW2 (i := 224) (by decide +kernel) rfl
theorem mlX8_106 : Cond.methodLink RX8 106 yJ0_length_8abf5 ∈ Wg := inW2 (i := 228) (by decide +kernel) rfl
theorem mlJ0_335 : Cond.methodLink RJ0 335 yJ0_coder_7d493 ∈ Wg := inW2 (i := 232) (by decide +kernel) rfl
theorem flJ0_38 : Cond.fieldLink RJ0 38 "java/lang/String" "COMPACT_STRINGS" "Z" ∈ Wg := inW2 (i := 236) (by decide +kernel) rfl
theorem mlX8_118 : Cond.methodLink RX8 118 yJ0_charAt_5068e ∈ Wg := inW2 (i := 238) (by decide +kernel) rfl
theorem mlJ0_492 : Cond.methodLink RJ0 492 yJ0_isLatin1_aae02 ∈ Wg := inW3 (i := 2) (by decide +kernel) rfl
theorem mlJ0_495 : Cond.methodLink RJ0 495 yJ1_charAt_3b067 ∈ Wg := inW3 (i := 6) (by decide +kernel) rfl
theorem mlJ1_9 : Cond.methodLink RJ1 9 yJ0_checkIndex_df160 ∈ Wg := inW3 (i := 9) (by decide +kernel) rfl
theorem flJ0_1053 : Cond.fieldLink RJ0 1053 "jdk/internal/util/Preconditions" "SIOOBE_FORMATTER" "Ljava/util/function/BiFunction;" ∈ Wg := inW3 (i := 12) (by decide +kernel) rfl
theorem mlJ0_1059 : Cond.methodLink RJ0 1059 yJ3_checkIndex_8e157 ∈ Wg := inW3 (i := 14) (by decide +kernel) rfl
theorem mlJ0_498 : Cond.methodLink RJ0 498 yJ2_charAt_3b067 ∈ Wg := inW3 (i := 17) (by decide +kernel) rfl
theorem mlJ2_67 : Cond.methodLink RJ2 67 yJ2_checkIndex_2214a ∈ Wg := inW3 (i := 20) (by decide +kernel) rfl
theorem mlJ2_48 : Cond.methodLink RJ2 48 yJ2_length_9d52b ∈ Wg := inW3 (i := 23) (by decide +kernel) rfl
theorem mlJ2_414 : Cond.methodLink RJ2 414 yJ0_checkIndex_df160 ∈ Wg := inW3 (i := 26) (by decide +kernel) rfl
theorem mlJ2_71 : Cond.methodLink RJ2 71 yJ2_getChar_3b067 ∈ Wg := inW3 (i := 27) (by decide +kernel) rfl
theorem flJ2_44 : Cond.fieldLink RJ2 44 "java/lang/StringUTF16" "$assertionsDisabled" "Z" ∈ Wg := inW3 (i := 30) (by decide +kernel) rfl
theorem flJ2_59 : Cond.fieldLink RJ2 59 "java/lang/StringUTF16" "HI_BYTE_SHIFT" "I" ∈ Wg := inW3 (i := 32) (by decide +kernel) rfl
theorem flJ2_63 : Cond.fieldLink RJ2 63 "java/lang/StringUTF16" "LO_BYTE_SHIFT" "I" ∈ Wg := inW3 (i := 34) (by decide +kernel) rfl
theorem mlX8_90 : Cond.methodLink RX8 90 yX8_fail ∈ Wg := inW3 (i := 36) (by decide +kernel) rfl
theorem mlX8_77 : Cond.methodLink RX8 77 yX8_isNumber ∈ Wg := inW3 (i := 41) (by decide +kernel) rfl
theorem mlX8_85 : Cond.methodLink RX8 85 yX8_passSign ∈ Wg := inW3 (i := 46) (by decide +kernel) rfl
theorem mlX8_57 : Cond.methodLink RX8 57 yX8_readCounts ∈ Wg := inW3 (i := 50) (by decide +kernel) rfl
theorem mlX8_94 : Cond.methodLink RX8 94 yX7_put ∈ Wg := inW3 (i := 55) (by decide +kernel) rfl
theorem mlX8_61 : Cond.methodLink RX8 61 yX8_readHole ∈ Wg := inW3 (i := 58) (by decide +kernel) rfl
theorem mlX8_64 : Cond.methodLink RX8 64 yX7_get ∈ Wg := inW3 (i := 63) (by decide +kernel) rfl
theorem mlX11_85 : Cond.methodLink RX11 85 yX9_take ∈ Wg := inW3 (i := 66) (by decide +kernel) rfl
theorem mlX9_51 : Cond.methodLink RX9 51 yJ7_fill_53178 ∈ Wg := inW3 (i := 70) (by decide +kernel) rfl
theorem mlX9_57 : Cond.methodLink RX9 57 yX8_countAt ∈ Wg := inW3 (i := 71) (by decide +kernel) rfl
theorem mlX9_61 : Cond.methodLink RX9 61 yX3_shift ∈ Wg := inW3 (i := 75) (by decide +kernel) rfl
theorem mlX11_89 : Cond.methodLink RX11 89 yX9_isTold ∈ Wg := inW3 (i := 78) (by decide +kernel) rfl
theorem mlX11_92 : Cond.methodLink RX11 92 yX5_make ∈ Wg := inW3 (i := 82) (by decide +kernel) rfl
theorem mlX5_38 : Cond.methodLink RX5 38 yX5_addSwaps ∈ Wg := inW3 (i := 86) (by decide +kernel) rfl
theorem mlX5_49 : Cond.methodLink RX5 49 yX9_isHole ∈ Wg := inW3 (i := 90) (by decide +kernel) rfl
theorem mlX5_53 : Cond.methodLink RX5 53 yX3_shift ∈ Wg := inW3 (i := 94) (by decide +kernel) rfl
theorem mlX5_59 : Cond.methodLink RX5 59 yX3_swapStep ∈ Wg := inW3 (i := 95) (by decide +kernel) rfl
theorem mlX3_15 : Cond.methodLink RX3 15 yX3_one ∈ Wg := inW3 (i := 98) (by decide +kernel) rfl
theorem mlX3_11 : Cond.methodLink RX3 11 yX3_shift ∈ Wg := inW3 (i := 101) (by decide +kernel) rfl
theorem mlX5_63 : Cond.methodLink RX5 63 yX5_add ∈ Wg := inW3 (i := 102) (by decide +kernel) rfl
theorem mlX5_45 : Cond.methodLink RX5 45 yX5_addTurns ∈ Wg := inW3 (i := 106) (by decide +kernel) rfl
theorem mlX5_67 : Cond.methodLink RX5 67 yX3_one ∈ Wg := inW3 (i := 110) (by decide +kernel) rfl
theorem mlX11_96 : Cond.methodLink RX11 96 yX1_make ∈ Wg := inW3 (i := 111) (by decide +kernel) rfl
theorem mlX1_66 : Cond.methodLink RX1 66 yX2_make ∈ Wg := inW3 (i := 115) (by decide +kernel) rfl
theorem mlX2_31 : Cond.methodLink RX2 31 yX2_setStrides ∈ Wg := inW3 (i := 119) (by decide +kernel) rfl
theorem mlX2_68 : Cond.methodLink RX2 68 yJ7_fill_53178 ∈ Wg := inW3 (i := 123) (by decide +kernel) rfl
theorem mlX2_65 : Cond.methodLink RX2 65 yX9_columnSum ∈ Wg := inW3 (i := 124) (by decide +kernel) rfl
theorem mlX9_70 : Cond.methodLink RX9 70 yX7_get ∈ Wg := inW3 (i := 128) (by decide +kernel) rfl
theorem mlX2_35 : Cond.methodLink RX2 35 yX2_setScale ∈ Wg := inW3 (i := 129) (by decide +kernel) rfl
theorem mlX2_47 : Cond.methodLink RX2 47 yX9_rowSum ∈ Wg := inW3 (i := 133) (by decide +kernel) rfl
theorem mlX2_81 : Cond.methodLink RX2 81 yJ9_max_7cf53 ∈ Wg := inW3 (i := 137) (by decide +kernel) rfl
theorem mlX2_51 : Cond.methodLink RX2 51 yX2_lay ∈ Wg := inW3 (i := 140) (by decide +kernel) rfl
theorem mlX2_86 : Cond.methodLink RX2 86 yX2_keep ∈ Wg := inW3 (i := 143) (by decide +kernel) rfl
theorem mlX2_103 : Cond.methodLink RX2 103 yX2_factorial ∈ Wg := inW3 (i := 147) (by decide +kernel) rfl
theorem flX2_124 : Cond.fieldLink RX2 124 "CountTables$Fills" "FACTORIALS" "[J" ∈ Wg := inW3 (i := 150) (by decide +kernel) rfl
theorem mlX2_107 : Cond.methodLink RX2 107 yX3_inLine ∈ Wg := inW3 (i := 152) (by decide +kernel) rfl
theorem mlX2_110 : Cond.methodLink RX2 110 yX7_quotient ∈ Wg := inW3 (i := 155) (by decide +kernel) rfl
theorem mlX2_114 : Cond.methodLink RX2 114 yJ9_max_f86c9 ∈ Wg := inW3 (i := 158) (by decide +kernel) rfl
theorem mlX2_116 : Cond.methodLink RX2 116 yX7_put ∈ Wg := inW3 (i := 161) (by decide +kernel) rfl
theorem mlX2_120 : Cond.methodLink RX2 120 yX2_putParts ∈ Wg := inW3 (i := 162) (by decide +kernel) rfl
theorem mlX2_94 : Cond.methodLink RX2 94 yJ9_min_7cf53 ∈ Wg := inW3 (i := 166) (by decide +kernel) rfl
theorem mlX2_90 : Cond.methodLink RX2 90 yX9_isHole ∈ Wg := inW3 (i := 167) (by decide +kernel) rfl
theorem mlX2_97 : Cond.methodLink RX2 97 yX3_putInLine ∈ Wg := inW3 (i := 168) (by decide +kernel) rfl
theorem mlX1_70 : Cond.methodLink RX1 70 yX2_takenByAll ∈ Wg := inW3 (i := 171) (by decide +kernel) rfl
theorem mlX1_74 : Cond.methodLink RX1 74 yX2_codeOfAll ∈ Wg := inW3 (i := 175) (by decide +kernel) rfl
theorem mlX1_77 : Cond.methodLink RX1 77 yX1_addNode ∈ Wg := inW3 (i := 179) (by decide +kernel) rfl
theorem mlX1_130 : Cond.methodLink RX1 130 yX7_cut ∈ Wg := inW3 (i := 183) (by decide +kernel) rfl
theorem mlX1_81 : Cond.methodLink RX1 81 yX1_linkLevel ∈ Wg := inW3 (i := 186) (by decide +kernel) rfl
theorem mlX1_104 : Cond.methodLink RX1 104 yJ7_fill_53178 ∈ Wg := inW3 (i := 190) (by decide +kernel) rfl
theorem mlX1_85 : Cond.methodLink RX1 85 yX1_firstNode ∈ Wg := inW3 (i := 191) (by decide +kernel) rfl
theorem mlX1_110 : Cond.methodLink RX1 110 yX7_get ∈ Wg := inW3 (i := 195) (by decide +kernel) rfl
theorem mlX1_89 : Cond.methodLink RX1 89 yX7_put ∈ Wg := inW3 (i := 196) (by decide +kernel) rfl
theorem kcX1_114 : Cond.constant RX1 114 (8521760 : Int32) ∈ Wg := inW3 (i := 197) (by decide +kernel) rfl
theorem mlX1_115 : Cond.methodLink RX1 115 yX1_linkNode ∈ Wg := inW3 (i := 198) (by decide +kernel) rfl
theorem mlX1_119 : Cond.methodLink RX1 119 yX2_firstOf ∈ Wg := inW3 (i := 202) (by decide +kernel) rfl
theorem mlX2_55 : Cond.methodLink RX2 55 yX7_get ∈ Wg := inW3 (i := 206) (by decide +kernel) rfl
theorem mlX2_61 : Cond.methodLink RX2 61 yX7_cut ∈ Wg := inW3 (i := 207) (by decide +kernel) rfl
theorem kcX1_125 : Cond.constant RX1 125 (-8521761 : Int32) ∈ Wg := inW3 (i := 208) (by decide +kernel) rfl
theorem mlX1_127 : Cond.methodLink RX1 127 yX1_link ∈ Wg := inW3 (i := 209) (by decide +kernel) rfl
theorem mlX1_95 : Cond.methodLink RX1 95 yX1_sumAhead ∈ Wg := inW3 (i := 213) (by decide +kernel) rfl
theorem mlX1_133 : Cond.methodLink RX1 133 yJ9_min_7cf53 ∈ Wg := inW3 (i := 217) (by decide +kernel) rfl
theorem mlX1_138 : Cond.methodLink RX1 138 yX1_isLast ∈ Wg := inW3 (i := 218) (by decide +kernel) rfl
theorem mlX1_142 : Cond.methodLink RX1 142 yX1_firstLinkOf ∈ Wg := inW3 (i := 222) (by decide +kernel) rfl
theorem mlX1_145 : Cond.methodLink RX1 145 yX2_partOf ∈ Wg := inW3 (i := 226) (by decide +kernel) rfl
theorem mlX1_98 : Cond.methodLink RX1 98 yX1_sumBehind ∈ Wg := inW3 (i := 230) (by decide +kernel) rfl
theorem mlX1_149 : Cond.methodLink RX1 149 yJ7_fill_d0a16 ∈ Wg := inW3 (i := 234) (by decide +kernel) rfl
theorem mlX1_101 : Cond.methodLink RX1 101 yX1_sumSeenCells ∈ Wg := inW3 (i := 237) (by decide +kernel) rfl
theorem mlX1_152 : Cond.methodLink RX1 152 yX1_lineBy ∈ Wg := inW4 (i := 1) (by decide +kernel) rfl
theorem mlX1_155 : Cond.methodLink RX1 155 yX1_aheadOf ∈ Wg := inW4 (i := 5) (by decide +kernel) rfl
theorem mlX1_159 : Cond.methodLink RX1 159 yX1_addSeen ∈ Wg := inW4 (i := 9) (by decide +kernel) rfl
theorem mlX1_163 : Cond.methodLink RX1 163 yX3_inLine ∈ Wg := inW4 (i := 13) (by decide +kernel) rfl
theorem mlX1_168 : Cond.methodLink RX1 168 yX1_seenAt ∈ Wg := inW4 (i := 14) (by decide +kernel) rfl
theorem mlX11_97 : Cond.methodLink RX11 97 yX4_forget ∈ Wg := inW4 (i := 17) (by decide +kernel) rfl
theorem mlX11_100 : Cond.methodLink RX11 100 yX6_forget ∈ Wg := inW4 (i := 21) (by decide +kernel) rfl
theorem mlL_28 : Cond.methodLink RL 28 yX11_fault ∈ Wg := inW4 (i := 26) (by decide +kernel) rfl
theorem mlL_32 : Cond.methodLink RL 32 yX11_count ∈ Wg := inW4 (i := 30) (by decide +kernel) rfl
theorem mlX11_122 : Cond.methodLink RX11 122 yJ6_bitCount_0f7a4 ∈ Wg := inW4 (i := 34) (by decide +kernel) rfl
theorem kcJ6_265 : Cond.constant RJ6 265 (1431655765 : Int32) ∈ Wg := inW4 (i := 37) (by decide +kernel) rfl
theorem kcJ6_266 : Cond.constant RJ6 266 (858993459 : Int32) ∈ Wg := inW4 (i := 38) (by decide +kernel) rfl
theorem kcJ6_267 : Cond.constant RJ6 267 (252645135 : Int32) ∈ Wg := inW4 (i := 39) (by decide +kernel) rfl
theorem mlL_36 : Cond.methodLink RL 36 yX11_cell ∈ Wg := inW4 (i := 40) (by decide +kernel) rfl
theorem mlX11_131 : Cond.methodLink RX11 131 yX9_has ∈ Wg := inW4 (i := 44) (by decide +kernel) rfl
theorem mlX11_135 : Cond.methodLink RX11 135 yX9_at ∈ Wg := inW4 (i := 48) (by decide +kernel) rfl
theorem mlX9_66 : Cond.methodLink RX9 66 yX3_get ∈ Wg := inW4 (i := 52) (by decide +kernel) rfl
theorem mlL_41 : Cond.methodLink RL 41 yX11_hole ∈ Wg := inW4 (i := 55) (by decide +kernel) rfl
theorem mlX11_139 : Cond.methodLink RX11 139 yX9_isHole ∈ Wg := inW4 (i := 59) (by decide +kernel) rfl
theorem mlL_45 : Cond.methodLink RL 45 yX11_row ∈ Wg := inW4 (i := 60) (by decide +kernel) rfl
theorem mlX11_142 : Cond.methodLink RX11 142 yX9_rowSum ∈ Wg := inW4 (i := 64) (by decide +kernel) rfl
theorem mlL_49 : Cond.methodLink RL 49 yX11_column ∈ Wg := inW4 (i := 65) (by decide +kernel) rfl
theorem mlX11_145 : Cond.methodLink RX11 145 yX9_columnSum ∈ Wg := inW4 (i := 69) (by decide +kernel) rfl
theorem mlL_53 : Cond.methodLink RL 53 yX11_tables ∈ Wg := inW4 (i := 70) (by decide +kernel) rfl
theorem mlX11_148 : Cond.methodLink RX11 148 yX1_size ∈ Wg := inW4 (i := 74) (by decide +kernel) rfl
theorem kcX11_152 : Cond.constantLong RX11 152 (-2 : Int64) ∈ Wg := inW4 (i := 78) (by decide +kernel) rfl
theorem mlL_58 : Cond.methodLink RL 58 yX11_rank ∈ Wg := inW4 (i := 79) (by decide +kernel) rfl
theorem mlX11_158 : Cond.methodLink RX11 158 yX1_rankOf ∈ Wg := inW4 (i := 83) (by decide +kernel) rfl
theorem mlX1_182 : Cond.methodLink RX1 182 yX3_lineOf ∈ Wg := inW4 (i := 87) (by decide +kernel) rfl
theorem kcX3_19 : Cond.constant RX3 19 (65535 : Int32) ∈ Wg := inW4 (i := 90) (by decide +kernel) rfl
theorem mlX1_186 : Cond.methodLink RX1 186 yX1_linkBy ∈ Wg := inW4 (i := 91) (by decide +kernel) rfl
theorem kcX1_189 : Cond.constantLong RX1 189 (-1 : Int64) ∈ Wg := inW4 (i := 95) (by decide +kernel) rfl
theorem mlX1_191 : Cond.methodLink RX1 191 yX1_nodeBy ∈ Wg := inW4 (i := 96) (by decide +kernel) rfl
theorem mlL_64 : Cond.methodLink RL 64 yX11_of ∈ Wg := inW4 (i := 100) (by decide +kernel) rfl
theorem mlX11_162 : Cond.methodLink RX11 162 yX1_cellsOf ∈ Wg := inW4 (i := 104) (by decide +kernel) rfl
theorem mlX1_194 : Cond.methodLink RX1 194 yX3_withLine ∈ Wg := inW4 (i := 108) (by decide +kernel) rfl
theorem mlX11_165 : Cond.methodLink RX11 165 yX3_shift ∈ Wg := inW4 (i := 111) (by decide +kernel) rfl
theorem mlX11_170 : Cond.methodLink RX11 170 yX3_get ∈ Wg := inW4 (i := 112) (by decide +kernel) rfl
theorem mlL_69 : Cond.methodLink RL 69 yX11_least ∈ Wg := inW4 (i := 113) (by decide +kernel) rfl
theorem mlX11_174 : Cond.methodLink RX11 174 yX1_lowestOf ∈ Wg := inW4 (i := 117) (by decide +kernel) rfl
theorem mlX1_178 : Cond.methodLink RX1 178 yX1_timesSeen ∈ Wg := inW4 (i := 121) (by decide +kernel) rfl
theorem mlX1_175 : Cond.methodLink RX1 175 yX7_get_ ∈ Wg := inW4 (i := 125) (by decide +kernel) rfl
theorem mlL_73 : Cond.methodLink RL 73 yX11_most ∈ Wg := inW4 (i := 128) (by decide +kernel) rfl
theorem mlX11_177 : Cond.methodLink RX11 177 yX1_highestOf ∈ Wg := inW4 (i := 132) (by decide +kernel) rfl
theorem mlL_77 : Cond.methodLink RL 77 yX11_fixed ∈ Wg := inW4 (i := 136) (by decide +kernel) rfl
theorem mlL_81 : Cond.methodLink RL 81 yX11_having ∈ Wg := inW4 (i := 140) (by decide +kernel) rfl
theorem mlX11_180 : Cond.methodLink RX11 180 yX1_timesSeen ∈ Wg := inW4 (i := 144) (by decide +kernel) rfl
theorem mlL_86 : Cond.methodLink RL 86 yX11_mean ∈ Wg := inW4 (i := 145) (by decide +kernel) rfl
theorem mlX11_184 : Cond.methodLink RX11 184 yX1_sumSeen ∈ Wg := inW4 (i := 149) (by decide +kernel) rfl
theorem mlX11_188 : Cond.methodLink RX11 188 yX7_lowest ∈ Wg := inW4 (i := 153) (by decide +kernel) rfl
theorem kcX7_9 : Cond.constantLong RX7 9 (-2 : Int64) ∈ Wg := inW4 (i := 156) (by decide +kernel) rfl
theorem mlX7_11 : Cond.methodLink RX7 11 yX7_divisor ∈ Wg := inW4 (i := 157) (by decide +kernel) rfl
theorem mlX7_17 : Cond.methodLink RX7 17 yX7_quotient ∈ Wg := inW4 (i := 160) (by decide +kernel) rfl
theorem mlL_90 : Cond.methodLink RL 90 yX11_weight ∈ Wg := inW4 (i := 161) (by decide +kernel) rfl
theorem mlX11_194 : Cond.methodLink RX11 194 yX4_valueOf ∈ Wg := inW4 (i := 165) (by decide +kernel) rfl
theorem mlX4_40 : Cond.methodLink RX4 40 yX4_start ∈ Wg := inW4 (i := 169) (by decide +kernel) rfl
theorem mlX4_48 : Cond.methodLink RX4 48 yX3_lineOf ∈ Wg := inW4 (i := 172) (by decide +kernel) rfl
theorem mlX4_54 : Cond.methodLink RX4 54 yX1_linkBy ∈ Wg := inW4 (i := 173) (by decide +kernel) rfl
theorem kcX4_58 : Cond.constantLong RX4 58 (-2 : Int64) ∈ Wg := inW4 (i := 174) (by decide +kernel) rfl
theorem mlX4_60 : Cond.methodLink RX4 60 yX1_partBy ∈ Wg := inW4 (i := 175) (by decide +kernel) rfl
theorem mlX4_64 : Cond.methodLink RX4 64 yX4_join ∈ Wg := inW4 (i := 179) (by decide +kernel) rfl
theorem mlX4_103 : Cond.methodLink RX4 103 yJ9_max_f86c9 ∈ Wg := inW4 (i := 182) (by decide +kernel) rfl
theorem mlX4_68 : Cond.methodLink RX4 68 yX1_nodeBy ∈ Wg := inW4 (i := 183) (by decide +kernel) rfl
theorem mlL_94 : Cond.methodLink RL 94 yX11_weights ∈ Wg := inW4 (i := 184) (by decide +kernel) rfl
theorem mlX11_198 : Cond.methodLink RX11 198 yX1_heft ∈ Wg := inW4 (i := 188) (by decide +kernel) rfl
theorem mlL_98 : Cond.methodLink RL 98 yX11_heaviest ∈ Wg := inW4 (i := 192) (by decide +kernel) rfl
theorem mlX11_201 : Cond.methodLink RX11 201 yX4_firstHeaviest ∈ Wg := inW4 (i := 196) (by decide +kernel) rfl
theorem mlX4_86 : Cond.methodLink RX4 86 yX4_bound ∈ Wg := inW4 (i := 200) (by decide +kernel) rfl
theorem mlX4_109 : Cond.methodLink RX4 109 yX7_get__ ∈ Wg := inW4 (i := 204) (by decide +kernel) rfl
theorem mlX4_112 : Cond.methodLink RX4 112 yX7_put__ ∈ Wg := inW4 (i := 207) (by decide +kernel) rfl
theorem mlX4_119 : Cond.methodLink RX4 119 yX1_isLast ∈ Wg := inW4 (i := 210) (by decide +kernel) rfl
theorem mlX4_94 : Cond.methodLink RX4 94 yX4_slot ∈ Wg := inW4 (i := 211) (by decide +kernel) rfl
theorem mlX4_123 : Cond.methodLink RX4 123 yX7_put_ ∈ Wg := inW4 (i := 214) (by decide +kernel) rfl
theorem mlX4_126 : Cond.methodLink RX4 126 yX4_boundNode ∈ Wg := inW4 (i := 217) (by decide +kernel) rfl
theorem mlX4_97 : Cond.methodLink RX4 97 yX1_firstLinkOf ∈ Wg := inW4 (i := 221) (by decide +kernel) rfl
theorem mlX4_100 : Cond.methodLink RX4 100 yX1_aheadOf ∈ Wg := inW4 (i := 222) (by decide +kernel) rfl
theorem mlX4_80 : Cond.methodLink RX4 80 yX7_get_ ∈ Wg := inW4 (i := 223) (by decide +kernel) rfl
theorem mlX4_134 : Cond.methodLink RX4 134 yJ9_min_f86c9 ∈ Wg := inW4 (i := 224) (by decide +kernel) rfl
theorem mlX4_90 : Cond.methodLink RX4 90 yX4_firstWith ∈ Wg := inW4 (i := 227) (by decide +kernel) rfl
theorem mlL_102 : Cond.methodLink RL 102 yX11_lightest ∈ Wg := inW4 (i := 231) (by decide +kernel) rfl
theorem mlX11_204 : Cond.methodLink RX11 204 yX4_firstLightest ∈ Wg := inW4 (i := 235) (by decide +kernel) rfl
theorem mlL_106 : Cond.methodLink RL 106 yX11_statistic ∈ Wg := inW4 (i := 239) (by decide +kernel) rfl
theorem mlX11_207 : Cond.methodLink RX11 207 yX11_hasStatistic ∈ Wg := inW5 (i := 3) (by decide +kernel) rfl
theorem mlL_111 : Cond.methodLink RL 111 yX11_extreme ∈ Wg := inW5 (i := 7) (by decide +kernel) rfl
theorem mlX11_211 : Cond.methodLink RX11 211 yX4_farOut ∈ Wg := inW5 (i := 11) (by decide +kernel) rfl
theorem mlX4_72 : Cond.methodLink RX4 72 yX4_valueOf ∈ Wg := inW5 (i := 15) (by decide +kernel) rfl
theorem mlX4_76 : Cond.methodLink RX4 76 yX4_gatherAll ∈ Wg := inW5 (i := 16) (by decide +kernel) rfl
theorem mlX4_147 : Cond.methodLink RX4 147 yX4_gather ∈ Wg := inW5 (i := 20) (by decide +kernel) rfl
theorem mlX4_157 : Cond.methodLink RX4 157 yX4_gatherBehind ∈ Wg := inW5 (i := 23) (by decide +kernel) rfl
theorem mlL_115 : Cond.methodLink RL 115 yX11_share ∈ Wg := inW5 (i := 26) (by decide +kernel) rfl
theorem mlX11_214 : Cond.methodLink RX11 214 yX4_farOutHeft ∈ Wg := inW5 (i := 30) (by decide +kernel) rfl
theorem mlL_120 : Cond.methodLink RL 120 yX11_chi ∈ Wg := inW5 (i := 34) (by decide +kernel) rfl
theorem mlX11_217 : Cond.methodLink RX11 217 yX9_chiSum ∈ Wg := inW5 (i := 38) (by decide +kernel) rfl
theorem mlX9_109 : Cond.methodLink RX9 109 yX9_product ∈ Wg := inW5 (i := 42) (by decide +kernel) rfl
theorem mlX9_103 : Cond.methodLink RX9 103 yX9_rowSum ∈ Wg := inW5 (i := 46) (by decide +kernel) rfl
theorem mlX9_106 : Cond.methodLink RX9 106 yX9_columnSum ∈ Wg := inW5 (i := 47) (by decide +kernel) rfl
theorem mlX9_75 : Cond.methodLink RX9 75 yX9_at ∈ Wg := inW5 (i := 48) (by decide +kernel) rfl
theorem mlX11_221 : Cond.methodLink RX11 221 yX7_bitsOfDouble ∈ Wg := inW5 (i := 49) (by decide +kernel) rfl
theorem kcX7_20 : Cond.constantLong RX7 20 (1023 : Int64) ∈ Wg := inW5 (i := 52) (by decide +kernel) rfl
theorem kcX7_22 : Cond.constantDouble RX7 22 (4611686018427387904 : UInt64) ∈ Wg := inW5 (i := 53) (by decide +kernel) rfl
theorem kcX7_24 : Cond.constantDouble RX7 24 (4841369599423283200 : UInt64) ∈ Wg := inW5 (i := 54) (by decide +kernel) rfl
theorem mlL_124 : Cond.methodLink RL 124 yX11_excess ∈ Wg := inW5 (i := 55) (by decide +kernel) rfl
theorem mlX11_225 : Cond.methodLink RX11 225 yX9_over ∈ Wg := inW5 (i := 59) (by decide +kernel) rfl
theorem mlX11_229 : Cond.methodLink RX11 229 yX7_bitsOfFloat ∈ Wg := inW5 (i := 63) (by decide +kernel) rfl
theorem mlX7_26 : Cond.methodLink RX7 26 yX7_bitsOfDouble ∈ Wg := inW5 (i := 66) (by decide +kernel) rfl
theorem kcX7_30 : Cond.constantLong RX7 30 (7516192768 : Int64) ∈ Wg := inW5 (i := 67) (by decide +kernel) rfl
theorem kcX7_32 : Cond.constant RX7 32 (-2147483648 : Int32) ∈ Wg := inW5 (i := 68) (by decide +kernel) rfl
theorem mlL_128 : Cond.methodLink RL 128 yX11_swaps ∈ Wg := inW5 (i := 69) (by decide +kernel) rfl
theorem mlX11_233 : Cond.methodLink RX11 233 yX5_swapsOn ∈ Wg := inW5 (i := 73) (by decide +kernel) rfl
theorem mlX5_75 : Cond.methodLink RX5 75 yX5_can ∈ Wg := inW5 (i := 77) (by decide +kernel) rfl
theorem mlX5_71 : Cond.methodLink RX5 71 yX3_get ∈ Wg := inW5 (i := 81) (by decide +kernel) rfl
theorem mlL_132 : Cond.methodLink RL 132 yX11_classes ∈ Wg := inW5 (i := 82) (by decide +kernel) rfl
theorem mlX11_237 : Cond.methodLink RX11 237 yX11_refusalOfList ∈ Wg := inW5 (i := 86) (by decide +kernel) rfl
theorem kcX11_311 : Cond.constantLong RX11 311 (1000 : Int64) ∈ Wg := inW5 (i := 90) (by decide +kernel) rfl
theorem mlX11_313 : Cond.methodLink RX11 313 yX6_prepare ∈ Wg := inW5 (i := 91) (by decide +kernel) rfl
theorem kcX6_61 : Cond.constantLong RX6 61 (1000 : Int64) ∈ Wg := inW5 (i := 95) (by decide +kernel) rfl
theorem mlX6_63 : Cond.methodLink RX6 63 yX1_size ∈ Wg := inW5 (i := 96) (by decide +kernel) rfl
theorem mlX6_69 : Cond.methodLink RX6 69 yJ9_min_f86c9 ∈ Wg := inW5 (i := 97) (by decide +kernel) rfl
theorem mlX6_77 : Cond.methodLink RX6 77 yX1_cellsOf ∈ Wg := inW5 (i := 98) (by decide +kernel) rfl
theorem mlX6_81 : Cond.methodLink RX6 81 yX7_put_ ∈ Wg := inW5 (i := 99) (by decide +kernel) rfl
theorem mlX6_90 : Cond.methodLink RX6 90 yX7_put ∈ Wg := inW5 (i := 100) (by decide +kernel) rfl
theorem mlX6_93 : Cond.methodLink RX6 93 yX6_cellsAt ∈ Wg := inW5 (i := 101) (by decide +kernel) rfl
theorem mlX6_133 : Cond.methodLink RX6 133 yX7_get_ ∈ Wg := inW5 (i := 105) (by decide +kernel) rfl
theorem mlX6_97 : Cond.methodLink RX6 97 yX6_linkSwaps ∈ Wg := inW5 (i := 106) (by decide +kernel) rfl
theorem mlX6_107 : Cond.methodLink RX6 107 yX5_can ∈ Wg := inW5 (i := 110) (by decide +kernel) rfl
theorem mlX6_111 : Cond.methodLink RX6 111 yX5_moved ∈ Wg := inW5 (i := 111) (by decide +kernel) rfl
theorem mlX6_115 : Cond.methodLink RX6 115 yX6_find ∈ Wg := inW5 (i := 115) (by decide +kernel) rfl
theorem kcX6_137 : Cond.constantLong RX6 137 (-9223372036854775808 : Int64) ∈ Wg := inW5 (i := 119) (by decide +kernel) rfl
theorem mlX6_119 : Cond.methodLink RX6 119 yX6_addNear ∈ Wg := inW5 (i := 120) (by decide +kernel) rfl
theorem kcX6_123 : Cond.constant RX6 123 (72000 : Int32) ∈ Wg := inW5 (i := 124) (by decide +kernel) rfl
theorem mlX6_124 : Cond.methodLink RX6 124 yJ9_min_7cf53 ∈ Wg := inW5 (i := 125) (by decide +kernel) rfl
theorem mlX6_127 : Cond.methodLink RX6 127 yJ7_copyOf_59c91 ∈ Wg := inW5 (i := 126) (by decide +kernel) rfl
theorem mlJ7_316 : Cond.methodLink RJ7 316 ⟨"[I", "clone", "()Ljava/lang/Object;"⟩ ∈ Wg := inW5 (i := 129) (by decide +kernel) rfl
theorem clJ7_317 : Cond.classLink RJ7 317 "[I" ∈ Wg := inW5 (i := 135) (by decide +kernel) rfl
theorem mlJ7_304 : Cond.methodLink RJ7 304 yJ9_min_7cf53 ∈ Wg := inW5 (i := 136) (by decide +kernel) rfl
theorem mlJ7_150 : Cond.methodLink RJ7 150 ⟨"java/lang/System", "arraycopy", "(Ljava/lang/Object;ILjava/lang/Object;II)V"⟩ ∈ Wg := inW5 (i := 137) (by decide +kernel) rfl
theorem mlX6_101 : Cond.methodLink RX6 101 yX6_splitIntoClasses ∈ Wg := inW5 (i := 140) (by decide +kernel) rfl
theorem mlX6_139 : Cond.methodLink RX6 139 yJ7_fill_53178 ∈ Wg := inW5 (i := 144) (by decide +kernel) rfl
theorem mlX6_146 : Cond.methodLink RX6 146 yX7_get ∈ Wg := inW5 (i := 145) (by decide +kernel) rfl
theorem mlX6_149 : Cond.methodLink RX6 149 yX6_spread ∈ Wg := inW5 (i := 146) (by decide +kernel) rfl
theorem mlX6_156 : Cond.methodLink RX6 156 yX6_reach ∈ Wg := inW5 (i := 150) (by decide +kernel) rfl
theorem mlX6_159 : Cond.methodLink RX6 159 yX6_firstNearOf ∈ Wg := inW5 (i := 154) (by decide +kernel) rfl
theorem mlX11_241 : Cond.methodLink RX11 241 yX6_classTotal ∈ Wg := inW5 (i := 158) (by decide +kernel) rfl
theorem mlL_136 : Cond.methodLink RL 136 yX11_joined ∈ Wg := inW5 (i := 162) (by decide +kernel) rfl
theorem mlX11_244 : Cond.methodLink RX11 244 yX6_joinedTotal ∈ Wg := inW5 (i := 166) (by decide +kernel) rfl
theorem mlX6_166 : Cond.methodLink RX6 166 yX6_countJoined ∈ Wg := inW5 (i := 170) (by decide +kernel) rfl
theorem mlX6_170 : Cond.methodLink RX6 170 yX6_distanceOf ∈ Wg := inW5 (i := 174) (by decide +kernel) rfl
theorem mlX6_173 : Cond.methodLink RX6 173 yX6_spreadByAll ∈ Wg := inW5 (i := 178) (by decide +kernel) rfl
theorem mlL_140 : Cond.methodLink RL 140 yX11_classOf ∈ Wg := inW5 (i := 182) (by decide +kernel) rfl
theorem mlX11_247 : Cond.methodLink RX11 247 yX11_refusalOfRank ∈ Wg := inW5 (i := 186) (by decide +kernel) rfl
theorem mlX11_250 : Cond.methodLink RX11 250 yX6_headOf ∈ Wg := inW5 (i := 190) (by decide +kernel) rfl
theorem mlL_144 : Cond.methodLink RL 144 yX11_sized ∈ Wg := inW5 (i := 194) (by decide +kernel) rfl
theorem mlX11_253 : Cond.methodLink RX11 253 yX6_classSize ∈ Wg := inW5 (i := 198) (by decide +kernel) rfl
theorem mlX6_163 : Cond.methodLink RX6 163 yX6_headOf ∈ Wg := inW5 (i := 202) (by decide +kernel) rfl
theorem mlL_148 : Cond.methodLink RL 148 yX11_apart ∈ Wg := inW5 (i := 203) (by decide +kernel) rfl
theorem mlX11_256 : Cond.methodLink RX11 256 yX6_distance ∈ Wg := inW5 (i := 207) (by decide +kernel) rfl
theorem mlX6_179 : Cond.methodLink RX6 179 yX6_measureFrom ∈ Wg := inW5 (i := 211) (by decide +kernel) rfl
theorem mlL_152 : Cond.methodLink RL 152 yX11_far ∈ Wg := inW5 (i := 215) (by decide +kernel) rfl
theorem mlX11_259 : Cond.methodLink RX11 259 yX11_rankNow ∈ Wg := inW5 (i := 219) (by decide +kernel) rfl
theorem mlX11_262 : Cond.methodLink RX11 262 yX6_greatestDistance ∈ Wg := inW5 (i := 223) (by decide +kernel) rfl
theorem mlX6_182 : Cond.methodLink RX6 182 yX6_firstAtGreatest ∈ Wg := inW5 (i := 227) (by decide +kernel) rfl
theorem mlL_156 : Cond.methodLink RL 156 yX11_farthest ∈ Wg := inW5 (i := 231) (by decide +kernel) rfl
theorem mlX11_265 : Cond.methodLink RX11 265 yX6_firstAtGreatest ∈ Wg := inW5 (i := 235) (by decide +kernel) rfl
theorem mlL_160 : Cond.methodLink RL 160 yX11_within ∈ Wg := inW5 (i := 236) (by decide +kernel) rfl
theorem mlX11_268 : Cond.methodLink RX11 268 yX6_reached ∈ Wg := inW6 (i := 0) (by decide +kernel) rfl
theorem mlL_164 : Cond.methodLink RL 164 yX11_ways ∈ Wg := inW6 (i := 4) (by decide +kernel) rfl
theorem mlX11_271 : Cond.methodLink RX11 271 yX6_choiceRows ∈ Wg := inW6 (i := 8) (by decide +kernel) rfl
theorem mlX6_185 : Cond.methodLink RX6 185 yJ7_fill_d0a16 ∈ Wg := inW6 (i := 12) (by decide +kernel) rfl
theorem mlX6_188 : Cond.methodLink RX6 188 yX6_choiceRowsTo ∈ Wg := inW6 (i := 13) (by decide +kernel) rfl
theorem kcX6_194 : Cond.constantLong RX6 194 (2 : Int64) ∈ Wg := inW6 (i := 17) (by decide +kernel) rfl
theorem mlL_168 : Cond.methodLink RL 168 yX11_drawn ∈ Wg := inW6 (i := 18) (by decide +kernel) rfl
theorem kcX11_274 : Cond.constant RX11 274 (1073741824 : Int32) ∈ Wg := inW6 (i := 22) (by decide +kernel) rfl
theorem mlX11_275 : Cond.methodLink RX11 275 yX11_evenWords ∈ Wg := inW6 (i := 23) (by decide +kernel) rfl
theorem kcX11_305 : Cond.constantLong RX11 305 (1073741824 : Int64) ∈ Wg := inW6 (i := 27) (by decide +kernel) rfl
theorem mlX11_307 : Cond.methodLink RX11 307 yX7_quotient ∈ Wg := inW6 (i := 28) (by decide +kernel) rfl
theorem kcX11_278 : Cond.constantLong RX11 278 (-1 : Int64) ∈ Wg := inW6 (i := 29) (by decide +kernel) rfl
theorem mlL_172 : Cond.methodLink RL 172 yX11_evenly ∈ Wg := inW6 (i := 30) (by decide +kernel) rfl
theorem mlL_176 : Cond.methodLink RL 176 yX11_swap ∈ Wg := inW6 (i := 34) (by decide +kernel) rfl
theorem mlX11_280 : Cond.methodLink RX11 280 yX9_isFull ∈ Wg := inW6 (i := 38) (by decide +kernel) rfl
theorem mlX11_283 : Cond.methodLink RX11 283 yX9_canSwap ∈ Wg := inW6 (i := 42) (by decide +kernel) rfl
theorem mlX9_78 : Cond.methodLink RX9 78 yX9_isHole ∈ Wg := inW6 (i := 46) (by decide +kernel) rfl
theorem mlX11_287 : Cond.methodLink RX11 287 yX9_remember ∈ Wg := inW6 (i := 47) (by decide +kernel) rfl
theorem mlX11_290 : Cond.methodLink RX11 290 yX9_doSwap ∈ Wg := inW6 (i := 51) (by decide +kernel) rfl
theorem mlX9_82 : Cond.methodLink RX9 82 yX3_swapStep ∈ Wg := inW6 (i := 55) (by decide +kernel) rfl
theorem mlL_181 : Cond.methodLink RL 181 yX11_walk ∈ Wg := inW6 (i := 56) (by decide +kernel) rfl
theorem kcX11_294 : Cond.constant RX11 294 (2000000000 : Int32) ∈ Wg := inW6 (i := 60) (by decide +kernel) rfl
theorem mlX11_295 : Cond.methodLink RX11 295 yX0_start ∈ Wg := inW6 (i := 61) (by decide +kernel) rfl
theorem mlX11_298 : Cond.methodLink RX11 298 yX9_choose ∈ Wg := inW6 (i := 65) (by decide +kernel) rfl
theorem mlX9_86 : Cond.methodLink RX9 86 yX0_draw ∈ Wg := inW6 (i := 69) (by decide +kernel) rfl
theorem kcX0_13 : Cond.constantLong RX0 13 (1103515245 : Int64) ∈ Wg := inW6 (i := 73) (by decide +kernel) rfl
theorem kcX0_15 : Cond.constantLong RX0 15 (12345 : Int64) ∈ Wg := inW6 (i := 74) (by decide +kernel) rfl
theorem kcX0_17 : Cond.constantLong RX0 17 (2147483647 : Int64) ∈ Wg := inW6 (i := 75) (by decide +kernel) rfl
theorem kcX0_19 : Cond.constantLong RX0 19 (65536 : Int64) ∈ Wg := inW6 (i := 76) (by decide +kernel) rfl
theorem mlX9_92 : Cond.methodLink RX9 92 yX0_drawOther ∈ Wg := inW6 (i := 77) (by decide +kernel) rfl
theorem mlX0_21 : Cond.methodLink RX0 21 yX0_draw ∈ Wg := inW6 (i := 81) (by decide +kernel) rfl
theorem mlX9_95 : Cond.methodLink RX9 95 yX9_canSwap ∈ Wg := inW6 (i := 82) (by decide +kernel) rfl
theorem mlX9_99 : Cond.methodLink RX9 99 yX9_doSwap ∈ Wg := inW6 (i := 83) (by decide +kernel) rfl
theorem mlL_185 : Cond.methodLink RL 185 yX11_undo ∈ Wg := inW6 (i := 84) (by decide +kernel) rfl
theorem mlX11_302 : Cond.methodLink RX11 302 yX9_goBackTo ∈ Wg := inW6 (i := 88) (by decide +kernel) rfl
theorem mlL_189 : Cond.methodLink RL 189 yX11_anew ∈ Wg := inW6 (i := 92) (by decide +kernel) rfl
theorem clL_10 : Cond.classLink RL 10 "CountTablesModel" ∈ Wg := inW6 (i := 96) (by decide +kernel) rfl
theorem mlL_12 : Cond.methodLink RL 12 yX12_init ∈ Wg := inW6 (i := 98) (by decide +kernel) rfl
theorem mlX12_3 : Cond.methodLink RX12 3 ⟨"java/lang/Object", "<init>", "()V"⟩ ∈ Wg := inW6 (i := 101) (by decide +kernel) rfl
theorem flX12_9 : Fl RX12 9 10 0 2 := ⟨(RX12, TX12, 40), rfl, wcl_10, by decide, rfl, inW6 (i := 102) (by decide +kernel) rfl, rfl⟩
theorem flX12_13 : Fl RX12 13 10 1 2 := ⟨(RX12, TX12, 40), rfl, wcl_10, by decide, rfl, inW6 (i := 103) (by decide +kernel) rfl, rfl⟩
theorem flX12_16 : Fl RX12 16 10 2 2 := ⟨(RX12, TX12, 40), rfl, wcl_10, by decide, rfl, inW6 (i := 104) (by decide +kernel) rfl, rfl⟩
theorem flX12_19 : Fl RX12 19 10 3 2 := ⟨(RX12, TX12, 40), rfl, wcl_10, by decide, rfl, inW6 (i := 105) (by decide +kernel) rfl, rfl⟩
theorem flX12_57 : Fl RX12 57 10 4 0 := ⟨(RX12, TX12, 40), rfl, wcl_10, by decide, rfl, inW6 (i := 106) (by decide +kernel) rfl, rfl⟩
theorem flX12_91 : Fl RX12 91 10 5 0 := ⟨(RX12, TX12, 40), rfl, wcl_10, by decide, rfl, inW6 (i := 107) (by decide +kernel) rfl, rfl⟩
theorem flX12_22 : Fl RX12 22 10 6 0 := ⟨(RX12, TX12, 40), rfl, wcl_10, by decide, rfl, inW6 (i := 108) (by decide +kernel) rfl, rfl⟩
theorem flX12_64 : Fl RX12 64 10 7 0 := ⟨(RX12, TX12, 40), rfl, wcl_10, by decide, rfl, inW6 (i := 109) (by decide +kernel) rfl, rfl⟩
theorem flX12_71 : Fl RX12 71 10 8 0 := ⟨(RX12, TX12, 40), rfl, wcl_10, by decide, rfl, inW6 (i := 110) (by decide +kernel) rfl, rfl⟩
theorem flX12_77 : Fl RX12 77 10 9 0 := ⟨(RX12, TX12, 40), rfl, wcl_10, by decide, rfl, inW6 (i := 111) (by decide +kernel) rfl, rfl⟩
theorem flX12_74 : Fl RX12 74 10 10 0 := ⟨(RX12, TX12, 40), rfl, wcl_10, by decide, rfl, inW6 (i := 112) (by decide +kernel) rfl, rfl⟩
theorem flX12_130 : Fl RX12 130 10 11 0 := ⟨(RX12, TX12, 40), rfl, wcl_10, by decide, rfl, inW6 (i := 113) (by decide +kernel) rfl, rfl⟩
theorem flX12_87 : Fl RX12 87 10 12 3 := ⟨(RX12, TX12, 40), rfl, wcl_10, by decide, rfl, inW6 (i := 114) (by decide +kernel) rfl, rfl⟩
theorem flX12_169 : Fl RX12 169 10 13 0 := ⟨(RX12, TX12, 40), rfl, wcl_10, by decide, rfl, inW6 (i := 115) (by decide +kernel) rfl, rfl⟩
theorem flX12_172 : Fl RX12 172 10 14 3 := ⟨(RX12, TX12, 40), rfl, wcl_10, by decide, rfl, inW6 (i := 116) (by decide +kernel) rfl, rfl⟩
theorem flX12_175 : Fl RX12 175 10 15 1 := ⟨(RX12, TX12, 40), rfl, wcl_10, by decide, rfl, inW6 (i := 117) (by decide +kernel) rfl, rfl⟩
theorem flX12_197 : Fl RX12 197 10 16 1 := ⟨(RX12, TX12, 40), rfl, wcl_10, by decide, rfl, inW6 (i := 118) (by decide +kernel) rfl, rfl⟩
theorem flX12_181 : Fl RX12 181 10 17 1 := ⟨(RX12, TX12, 40), rfl, wcl_10, by decide, rfl, inW6 (i := 119) (by decide +kernel) rfl, rfl⟩
theorem flX12_26 : Fl RX12 26 10 18 2 := ⟨(RX12, TX12, 40), rfl, wcl_10, by decide, rfl, inW6 (i := 120) (by decide +kernel) rfl, rfl⟩
theorem flX12_29 : Fl RX12 29 10 19 2 := ⟨(RX12, TX12, 40), rfl, wcl_10, by decide, rfl, inW6 (i := 121) (by decide +kernel) rfl, rfl⟩
theorem flX12_32 : Fl RX12 32 10 20 2 := ⟨(RX12, TX12, 40), rfl, wcl_10, by decide, rfl, inW6 (i := 122) (by decide +kernel) rfl, rfl⟩
theorem flX12_35 : Fl RX12 35 10 21 2 := ⟨(RX12, TX12, 40), rfl, wcl_10, by decide, rfl, inW6 (i := 123) (by decide +kernel) rfl, rfl⟩
theorem flX12_216 : Fl RX12 216 10 22 1 := ⟨(RX12, TX12, 40), rfl, wcl_10, by decide, rfl, inW6 (i := 124) (by decide +kernel) rfl, rfl⟩
theorem flX12_219 : Fl RX12 219 10 23 1 := ⟨(RX12, TX12, 40), rfl, wcl_10, by decide, rfl, inW6 (i := 125) (by decide +kernel) rfl, rfl⟩
theorem flX12_225 : Fl RX12 225 10 24 1 := ⟨(RX12, TX12, 40), rfl, wcl_10, by decide, rfl, inW6 (i := 126) (by decide +kernel) rfl, rfl⟩
theorem flX12_222 : Fl RX12 222 10 25 1 := ⟨(RX12, TX12, 40), rfl, wcl_10, by decide, rfl, inW6 (i := 127) (by decide +kernel) rfl, rfl⟩
theorem flX12_228 : Fl RX12 228 10 26 1 := ⟨(RX12, TX12, 40), rfl, wcl_10, by decide, rfl, inW6 (i := 128) (by decide +kernel) rfl, rfl⟩
theorem flX12_231 : Fl RX12 231 10 27 0 := ⟨(RX12, TX12, 40), rfl, wcl_10, by decide, rfl, inW6 (i := 129) (by decide +kernel) rfl, rfl⟩
theorem flX12_238 : Fl RX12 238 10 28 1 := ⟨(RX12, TX12, 40), rfl, wcl_10, by decide, rfl, inW6 (i := 130) (by decide +kernel) rfl, rfl⟩
theorem flX12_241 : Fl RX12 241 10 29 1 := ⟨(RX12, TX12, 40), rfl, wcl_10, by decide, rfl, inW6 (i := 131) (by decide +kernel) rfl, rfl⟩
theorem flX12_244 : Fl RX12 244 10 30 1 := ⟨(RX12, TX12, 40), rfl, wcl_10, by decide, rfl, inW6 (i := 132) (by decide +kernel) rfl, rfl⟩
theorem flX12_39 : Fl RX12 39 10 31 2 := ⟨(RX12, TX12, 40), rfl, wcl_10, by decide, rfl, inW6 (i := 133) (by decide +kernel) rfl, rfl⟩
theorem flX12_328 : Fl RX12 328 10 32 0 := ⟨(RX12, TX12, 40), rfl, wcl_10, by decide, rfl, inW6 (i := 134) (by decide +kernel) rfl, rfl⟩
theorem flX12_42 : Fl RX12 42 10 33 2 := ⟨(RX12, TX12, 40), rfl, wcl_10, by decide, rfl, inW6 (i := 135) (by decide +kernel) rfl, rfl⟩
theorem flX12_45 : Fl RX12 45 10 34 2 := ⟨(RX12, TX12, 40), rfl, wcl_10, by decide, rfl, inW6 (i := 136) (by decide +kernel) rfl, rfl⟩
theorem flX12_48 : Fl RX12 48 10 35 2 := ⟨(RX12, TX12, 40), rfl, wcl_10, by decide, rfl, inW6 (i := 137) (by decide +kernel) rfl, rfl⟩
theorem flX12_343 : Fl RX12 343 10 36 0 := ⟨(RX12, TX12, 40), rfl, wcl_10, by decide, rfl, inW6 (i := 138) (by decide +kernel) rfl, rfl⟩
theorem flX12_51 : Fl RX12 51 10 37 2 := ⟨(RX12, TX12, 40), rfl, wcl_10, by decide, rfl, inW6 (i := 139) (by decide +kernel) rfl, rfl⟩
theorem flX12_54 : Fl RX12 54 10 38 2 := ⟨(RX12, TX12, 40), rfl, wcl_10, by decide, rfl, inW6 (i := 140) (by decide +kernel) rfl, rfl⟩
theorem flX12_412 : Fl RX12 412 10 39 1 := ⟨(RX12, TX12, 40), rfl, wcl_10, by decide, rfl, inW6 (i := 141) (by decide +kernel) rfl, rfl⟩
theorem mlL_17 : Cond.methodLink RL 17 yX12_feed ∈ Wg := inW6 (i := 223) (by decide +kernel) rfl
theorem mlL_22 : Cond.methodLink RL 22 yX12_end ∈ Wg := inW6 (i := 227) (by decide +kernel) rfl
theorem mlX12_60 : Cond.methodLink RX12 60 yX12_in ∈ Wg := inW6 (i := 231) (by decide +kernel) rfl
theorem mlL_27 : Cond.methodLink RL 27 yX12_table ∈ Wg := inW6 (i := 234) (by decide +kernel) rfl
theorem mlX12_108 : Cond.methodLink RX12 108 yX12_next ∈ Wg := inW6 (i := 238) (by decide +kernel) rfl
theorem mlX12_67 : Cond.methodLink RX12 67 yX12_isAt ∈ Wg := inW7 (i := 2) (by decide +kernel) rfl
theorem kcX12_80 : Cond.constant RX12 80 (99999 : Int32) ∈ Wg := inW7 (i := 6) (by decide +kernel) rfl
theorem mlX12_81 : Cond.methodLink RX12 81 yJ9_min_7cf53 ∈ Wg := inW7 (i := 7) (by decide +kernel) rfl
theorem mlX12_141 : Cond.methodLink RX12 141 yX12_readsTable ∈ Wg := inW7 (i := 8) (by decide +kernel) rfl
theorem mlX12_117 : Cond.methodLink RX12 117 yX12_isWord ∈ Wg := inW7 (i := 13) (by decide +kernel) rfl
theorem mlX12_94 : Cond.methodLink RX12 94 yJ0_length_8abf5 ∈ Wg := inW7 (i := 17) (by decide +kernel) rfl
theorem mlX12_100 : Cond.methodLink RX12 100 yJ0_charAt_5068e ∈ Wg := inW7 (i := 18) (by decide +kernel) rfl
theorem mlX12_111 : Cond.methodLink RX12 111 yX12_passes ∈ Wg := inW7 (i := 19) (by decide +kernel) rfl
theorem mlX12_104 : Cond.methodLink RX12 104 yX12_faults ∈ Wg := inW7 (i := 23) (by decide +kernel) rfl
theorem mlX12_123 : Cond.methodLink RX12 123 yX12_reads ∈ Wg := inW7 (i := 28) (by decide +kernel) rfl
theorem mlX12_144 : Cond.methodLink RX12 144 yX12_readsRow ∈ Wg := inW7 (i := 33) (by decide +kernel) rfl
theorem mlX12_133 : Cond.methodLink RX12 133 yX12_place ∈ Wg := inW7 (i := 38) (by decide +kernel) rfl
theorem mlX12_147 : Cond.methodLink RX12 147 yX12_readsHole ∈ Wg := inW7 (i := 42) (by decide +kernel) rfl
theorem mlX12_138 : Cond.methodLink RX12 138 yX12_has ∈ Wg := inW7 (i := 47) (by decide +kernel) rfl
theorem mlL_31 : Cond.methodLink RL 31 yX12_fault ∈ Wg := inW7 (i := 50) (by decide +kernel) rfl
theorem mlL_35 : Cond.methodLink RL 35 yX12_count ∈ Wg := inW7 (i := 54) (by decide +kernel) rfl
theorem mlX12_153 : Cond.methodLink RX12 153 yX12_totalNow ∈ Wg := inW7 (i := 58) (by decide +kernel) rfl
theorem mlX12_150 : Cond.methodLink RX12 150 yX12_many ∈ Wg := inW7 (i := 62) (by decide +kernel) rfl
theorem mlX12_156 : Cond.methodLink RX12 156 yX12_bitsOf ∈ Wg := inW7 (i := 66) (by decide +kernel) rfl
theorem mlL_40 : Cond.methodLink RL 40 yX12_cell ∈ Wg := inW7 (i := 69) (by decide +kernel) rfl
theorem mlX12_160 : Cond.methodLink RX12 160 yX12_isCell ∈ Wg := inW7 (i := 73) (by decide +kernel) rfl
theorem mlL_44 : Cond.methodLink RL 44 yX12_hole ∈ Wg := inW7 (i := 77) (by decide +kernel) rfl
theorem mlL_48 : Cond.methodLink RL 48 yX12_row ∈ Wg := inW7 (i := 81) (by decide +kernel) rfl
theorem mlX12_163 : Cond.methodLink RX12 163 yX12_sumOfRow ∈ Wg := inW7 (i := 85) (by decide +kernel) rfl
theorem mlL_52 : Cond.methodLink RL 52 yX12_column ∈ Wg := inW7 (i := 89) (by decide +kernel) rfl
theorem mlX12_166 : Cond.methodLink RX12 166 yX12_sumOfColumn ∈ Wg := inW7 (i := 93) (by decide +kernel) rfl
theorem mlL_57 : Cond.methodLink RL 57 yX12_tables ∈ Wg := inW7 (i := 97) (by decide +kernel) rfl
theorem mlX12_265 : Cond.methodLink RX12 265 yX12_is ∈ Wg := inW7 (i := 101) (by decide +kernel) rfl
theorem mlX12_269 : Cond.methodLink RX12 269 yX12_tablesOf ∈ Wg := inW7 (i := 105) (by decide +kernel) rfl
theorem mlX12_262 : Cond.methodLink RX12 262 yX12_goesAll ∈ Wg := inW7 (i := 109) (by decide +kernel) rfl
theorem kcX12_179 : Cond.constantLong RX12 179 (-1 : Int64) ∈ Wg := inW7 (i := 113) (by decide +kernel) rfl
theorem mlX12_184 : Cond.methodLink RX12 184 yX12_goes ∈ Wg := inW7 (i := 114) (by decide +kernel) rfl
theorem mlX12_187 : Cond.methodLink RX12 187 yX12_visits ∈ Wg := inW7 (i := 118) (by decide +kernel) rfl
theorem mlX12_194 : Cond.methodLink RX12 194 yX12_finds ∈ Wg := inW7 (i := 122) (by decide +kernel) rfl
theorem mlX12_200 : Cond.methodLink RX12 200 yX12_tallies ∈ Wg := inW7 (i := 126) (by decide +kernel) rfl
theorem mlX12_203 : Cond.methodLink RX12 203 yX12_weighs ∈ Wg := inW7 (i := 130) (by decide +kernel) rfl
theorem mlX12_212 : Cond.methodLink RX12 212 yX12_weightOf ∈ Wg := inW7 (i := 134) (by decide +kernel) rfl
theorem mlX12_249 : Cond.methodLink RX12 249 yX12_waysOf ∈ Wg := inW7 (i := 138) (by decide +kernel) rfl
theorem mlX12_206 : Cond.methodLink RX12 206 yX12_measures ∈ Wg := inW7 (i := 141) (by decide +kernel) rfl
theorem mlX12_234 : Cond.methodLink RX12 234 yX12_measureOf ∈ Wg := inW7 (i := 145) (by decide +kernel) rfl
theorem mlX12_253 : Cond.methodLink RX12 253 yX12_product ∈ Wg := inW7 (i := 149) (by decide +kernel) rfl
theorem mlX12_260 : Cond.methodLink RX12 260 yJ9_max_7cf53 ∈ Wg := inW7 (i := 153) (by decide +kernel) rfl
theorem mlX12_256 : Cond.methodLink RX12 256 yJ9_max_f86c9 ∈ Wg := inW7 (i := 154) (by decide +kernel) rfl
theorem mlX12_209 : Cond.methodLink RX12 209 yX12_lists ∈ Wg := inW7 (i := 155) (by decide +kernel) rfl
theorem kcX12_247 : Cond.constantLong RX12 247 (1000 : Int64) ∈ Wg := inW7 (i := 159) (by decide +kernel) rfl
theorem mlX12_190 : Cond.methodLink RX12 190 yX12_hasPlace ∈ Wg := inW7 (i := 160) (by decide +kernel) rfl
theorem kcX12_272 : Cond.constantLong RX12 272 (-2 : Int64) ∈ Wg := inW7 (i := 164) (by decide +kernel) rfl
theorem mlL_61 : Cond.methodLink RL 61 yX12_rank ∈ Wg := inW7 (i := 165) (by decide +kernel) rfl
theorem mlX12_274 : Cond.methodLink RX12 274 yX12_rankOf ∈ Wg := inW7 (i := 169) (by decide +kernel) rfl
theorem mlL_68 : Cond.methodLink RL 68 yX12_of ∈ Wg := inW7 (i := 173) (by decide +kernel) rfl
theorem mlL_72 : Cond.methodLink RL 72 yX12_least ∈ Wg := inW7 (i := 177) (by decide +kernel) rfl
theorem mlX12_277 : Cond.methodLink RX12 277 yX12_talliesAll ∈ Wg := inW7 (i := 181) (by decide +kernel) rfl
theorem mlX12_280 : Cond.methodLink RX12 280 yX12_bounds ∈ Wg := inW7 (i := 185) (by decide +kernel) rfl
theorem mlL_76 : Cond.methodLink RL 76 yX12_most ∈ Wg := inW7 (i := 189) (by decide +kernel) rfl
theorem mlL_80 : Cond.methodLink RL 80 yX12_fixed ∈ Wg := inW7 (i := 193) (by decide +kernel) rfl
theorem mlL_85 : Cond.methodLink RL 85 yX12_having ∈ Wg := inW7 (i := 197) (by decide +kernel) rfl
theorem kcX12_284 : Cond.constantLong RX12 284 (20 : Int64) ∈ Wg := inW7 (i := 201) (by decide +kernel) rfl
theorem mlL_89 : Cond.methodLink RL 89 yX12_mean ∈ Wg := inW7 (i := 202) (by decide +kernel) rfl
theorem mlX12_289 : Cond.methodLink RX12 289 yX12_part ∈ Wg := inW7 (i := 206) (by decide +kernel) rfl
theorem mlX12_286 : Cond.methodLink RX12 286 yX12_common ∈ Wg := inW7 (i := 209) (by decide +kernel) rfl
theorem mlL_93 : Cond.methodLink RL 93 yX12_weight ∈ Wg := inW7 (i := 212) (by decide +kernel) rfl
theorem mlX12_293 : Cond.methodLink RX12 293 yX12_laysNow ∈ Wg := inW7 (i := 216) (by decide +kernel) rfl
theorem mlL_97 : Cond.methodLink RL 97 yX12_weights ∈ Wg := inW7 (i := 220) (by decide +kernel) rfl
theorem mlX12_296 : Cond.methodLink RX12 296 yX12_weighsAll ∈ Wg := inW7 (i := 224) (by decide +kernel) rfl
theorem mlL_101 : Cond.methodLink RL 101 yX12_heaviest ∈ Wg := inW7 (i := 228) (by decide +kernel) rfl
theorem mlL_105 : Cond.methodLink RL 105 yX12_lightest ∈ Wg := inW7 (i := 232) (by decide +kernel) rfl
theorem mlL_110 : Cond.methodLink RL 110 yX12_statistic ∈ Wg := inW7 (i := 236) (by decide +kernel) rfl
theorem mlX12_301 : Cond.methodLink RX12 301 yX12_isStatistic ∈ Wg := inW8 (i := 0) (by decide +kernel) rfl
theorem kcX12_299 : Cond.constantLong RX12 299 (3 : Int64) ∈ Wg := inW8 (i := 4) (by decide +kernel) rfl
theorem mlL_114 : Cond.methodLink RL 114 yX12_extreme ∈ Wg := inW8 (i := 5) (by decide +kernel) rfl
theorem mlX12_305 : Cond.methodLink RX12 305 yX12_measuresAll ∈ Wg := inW8 (i := 9) (by decide +kernel) rfl
theorem mlL_119 : Cond.methodLink RL 119 yX12_share ∈ Wg := inW8 (i := 13) (by decide +kernel) rfl
theorem mlL_123 : Cond.methodLink RL 123 yX12_chi ∈ Wg := inW8 (i := 17) (by decide +kernel) rfl
theorem mlX12_308 : Cond.methodLink RX12 308 yJxe99ae_doubleToLongBits_ccdee ∈ Wg := inW8 (i := 21) (by decide +kernel) rfl
theorem mlJxe99ae_122 : Cond.methodLink RJxe99ae 122 yJxe99ae_isNaN_b9ae7 ∈ Wg := inW8 (i := 24) (by decide +kernel) rfl
theorem mlJxe99ae_134 : Cond.methodLink RJxe99ae 134 ⟨"java/lang/Double", "doubleToRawLongBits", "(D)J"⟩ ∈ Wg := inW8 (i := 27) (by decide +kernel) rfl
theorem kcJxe99ae_137 : Cond.constantLong RJxe99ae 137 (9221120237041090560 : Int64) ∈ Wg := inW8 (i := 30) (by decide +kernel) rfl
theorem mlL_127 : Cond.methodLink RL 127 yX12_excess ∈ Wg := inW8 (i := 31) (by decide +kernel) rfl
theorem mlX12_314 : Cond.methodLink RX12 314 yJxf58ca_floatToIntBits_5c35a ∈ Wg := inW8 (i := 35) (by decide +kernel) rfl
theorem mlJxf58ca_59 : Cond.methodLink RJxf58ca 59 yJxf58ca_isNaN_12338 ∈ Wg := inW8 (i := 38) (by decide +kernel) rfl
theorem mlJxf58ca_74 : Cond.methodLink RJxf58ca 74 ⟨"java/lang/Float", "floatToRawIntBits", "(F)I"⟩ ∈ Wg := inW8 (i := 41) (by decide +kernel) rfl
theorem kcJxf58ca_77 : Cond.constant RJxf58ca 77 (2143289344 : Int32) ∈ Wg := inW8 (i := 44) (by decide +kernel) rfl
theorem mlL_131 : Cond.methodLink RL 131 yX12_swaps ∈ Wg := inW8 (i := 45) (by decide +kernel) rfl
theorem mlX12_320 : Cond.methodLink RX12 320 yX12_two ∈ Wg := inW8 (i := 49) (by decide +kernel) rfl
theorem mlX12_324 : Cond.methodLink RX12 324 yX12_canGo ∈ Wg := inW8 (i := 53) (by decide +kernel) rfl
theorem mlL_135 : Cond.methodLink RL 135 yX12_classes ∈ Wg := inW8 (i := 57) (by decide +kernel) rfl
theorem mlX12_381 : Cond.methodLink RX12 381 yX12_classesOf ∈ Wg := inW8 (i := 61) (by decide +kernel) rfl
theorem mlX12_372 : Cond.methodLink RX12 372 yX12_listsAll ∈ Wg := inW8 (i := 65) (by decide +kernel) rfl
theorem mlX12_375 : Cond.methodLink RX12 375 yX12_begins ∈ Wg := inW8 (i := 69) (by decide +kernel) rfl
theorem mlX12_378 : Cond.methodLink RX12 378 yX12_spreads ∈ Wg := inW8 (i := 73) (by decide +kernel) rfl
theorem mlX12_359 : Cond.methodLink RX12 359 yX12_reaches ∈ Wg := inW8 (i := 77) (by decide +kernel) rfl
theorem mlX12_366 : Cond.methodLink RX12 366 yX12_swapsFrom ∈ Wg := inW8 (i := 81) (by decide +kernel) rfl
theorem mlX12_346 : Cond.methodLink RX12 346 yX12_choices ∈ Wg := inW8 (i := 85) (by decide +kernel) rfl
theorem mlX12_349 : Cond.methodLink RX12 349 yX12_moreOf ∈ Wg := inW8 (i := 88) (by decide +kernel) rfl
theorem mlX12_363 : Cond.methodLink RX12 363 yX12_isChoice ∈ Wg := inW8 (i := 92) (by decide +kernel) rfl
theorem mlX12_352 : Cond.methodLink RX12 352 yX12_lessOf ∈ Wg := inW8 (i := 96) (by decide +kernel) rfl
theorem mlX12_355 : Cond.methodLink RX12 355 yX12_comesOf ∈ Wg := inW8 (i := 100) (by decide +kernel) rfl
theorem mlX12_335 : Cond.methodLink RX12 335 yX12_changes ∈ Wg := inW8 (i := 104) (by decide +kernel) rfl
theorem mlX12_339 : Cond.methodLink RX12 339 yX12_listedAt ∈ Wg := inW8 (i := 108) (by decide +kernel) rfl
theorem mlX12_331 : Cond.methodLink RX12 331 yX12_isAhead ∈ Wg := inW8 (i := 112) (by decide +kernel) rfl
theorem mlX12_369 : Cond.methodLink RX12 369 yX12_turnsFrom ∈ Wg := inW8 (i := 116) (by decide +kernel) rfl
theorem mlL_139 : Cond.methodLink RL 139 yX12_joined ∈ Wg := inW8 (i := 120) (by decide +kernel) rfl
theorem mlL_143 : Cond.methodLink RL 143 yX12_classOf ∈ Wg := inW8 (i := 124) (by decide +kernel) rfl
theorem mlX12_385 : Cond.methodLink RX12 385 yX12_whyNot ∈ Wg := inW8 (i := 128) (by decide +kernel) rfl
theorem mlL_147 : Cond.methodLink RL 147 yX12_sized ∈ Wg := inW8 (i := 132) (by decide +kernel) rfl
theorem mlL_151 : Cond.methodLink RL 151 yX12_apart ∈ Wg := inW8 (i := 136) (by decide +kernel) rfl
theorem mlL_155 : Cond.methodLink RL 155 yX12_far ∈ Wg := inW8 (i := 140) (by decide +kernel) rfl
theorem mlX12_388 : Cond.methodLink RX12 388 yX12_whyNotNow ∈ Wg := inW8 (i := 144) (by decide +kernel) rfl
theorem mlX12_391 : Cond.methodLink RX12 391 yX12_farOf ∈ Wg := inW8 (i := 148) (by decide +kernel) rfl
theorem mlL_159 : Cond.methodLink RL 159 yX12_farthest ∈ Wg := inW8 (i := 152) (by decide +kernel) rfl
theorem mlL_163 : Cond.methodLink RL 163 yX12_within ∈ Wg := inW8 (i := 156) (by decide +kernel) rfl
theorem kcX12_394 : Cond.constantLong RX12 394 (40 : Int64) ∈ Wg := inW8 (i := 160) (by decide +kernel) rfl
theorem mlL_167 : Cond.methodLink RL 167 yX12_ways ∈ Wg := inW8 (i := 161) (by decide +kernel) rfl
theorem kcX12_396 : Cond.constantLong RX12 396 (4 : Int64) ∈ Wg := inW8 (i := 165) (by decide +kernel) rfl
theorem kcX12_398 : Cond.constantLong RX12 398 (-3 : Int64) ∈ Wg := inW8 (i := 166) (by decide +kernel) rfl
theorem mlX12_400 : Cond.methodLink RX12 400 yX12_goesOn ∈ Wg := inW8 (i := 167) (by decide +kernel) rfl
theorem mlL_171 : Cond.methodLink RL 171 yX12_drawn ∈ Wg := inW8 (i := 171) (by decide +kernel) rfl
theorem kcX12_403 : Cond.constantLong RX12 403 (1073741823 : Int64) ∈ Wg := inW8 (i := 175) (by decide +kernel) rfl
theorem kcX12_405 : Cond.constantLong RX12 405 (1073741824 : Int64) ∈ Wg := inW8 (i := 176) (by decide +kernel) rfl
theorem mlL_175 : Cond.methodLink RL 175 yX12_evenly ∈ Wg := inW8 (i := 177) (by decide +kernel) rfl
theorem mlL_180 : Cond.methodLink RL 180 yX12_swap ∈ Wg := inW8 (i := 181) (by decide +kernel) rfl
theorem mlX12_407 : Cond.methodLink RX12 407 yX12_keeps ∈ Wg := inW8 (i := 185) (by decide +kernel) rfl
theorem mlL_184 : Cond.methodLink RL 184 yX12_walk ∈ Wg := inW8 (i := 189) (by decide +kernel) rfl
theorem kcX12_424 : Cond.constantLong RX12 424 (2000000000 : Int64) ∈ Wg := inW8 (i := 193) (by decide +kernel) rfl
theorem mlX12_421 : Cond.methodLink RX12 421 yX12_draw ∈ Wg := inW8 (i := 194) (by decide +kernel) rfl
theorem kcX12_410 : Cond.constantLong RX12 410 (1103515245 : Int64) ∈ Wg := inW8 (i := 198) (by decide +kernel) rfl
theorem kcX12_415 : Cond.constantLong RX12 415 (12345 : Int64) ∈ Wg := inW8 (i := 199) (by decide +kernel) rfl
theorem kcX12_417 : Cond.constantLong RX12 417 (2147483648 : Int64) ∈ Wg := inW8 (i := 200) (by decide +kernel) rfl
theorem kcX12_419 : Cond.constantLong RX12 419 (65536 : Int64) ∈ Wg := inW8 (i := 201) (by decide +kernel) rfl
theorem mlX12_426 : Cond.methodLink RX12 426 yX12_drawOther ∈ Wg := inW8 (i := 202) (by decide +kernel) rfl
theorem mlL_188 : Cond.methodLink RL 188 yX12_undo ∈ Wg := inW8 (i := 206) (by decide +kernel) rfl
theorem mlX12_429 : Cond.methodLink RX12 429 yX12_goesBack ∈ Wg := inW8 (i := 210) (by decide +kernel) rfl
theorem mlL_192 : Cond.methodLink RL 192 yX12_anew ∈ Wg := inW8 (i := 214) (by decide +kernel) rfl
theorem kcL_62 : Cond.constantLong RL 62 (4294967295 : Int64) ∈ Wg := inW8 (i := 218) (by decide +kernel) rfl
theorem flJ0_9 : Cond.fieldLink RJ0 9 "java/lang/String" "value" "[B" ∈ Wg := inW8 (i := 219) (by decide +kernel) rfl
theorem flJ0_15 : Cond.fieldLink RJ0 15 "java/lang/String" "coder" "B" ∈ Wg := inW8 (i := 220) (by decide +kernel) rfl
theorem fp_0_0 : Fp 0 0 false .long := ⟨(RX0, TX0, 1), rfl, ⟨tyX0, tyX0_ok⟩, nmX0, rfl, by decide +kernel⟩
theorem fp_1_0 : Fp 1 0 true (.object "CountTables$Fills") := ⟨(RX1, TX1, 15), rfl, ⟨tyX1, tyX1_ok⟩, nmX1, rfl, by decide +kernel⟩
theorem fp_1_1 : Fp 1 1 false .int := ⟨(RX1, TX1, 15), rfl, ⟨tyX1, tyX1_ok⟩, nmX1, rfl, by decide +kernel⟩
theorem fp_1_2 : Fp 1 2 false .int := ⟨(RX1, TX1, 15), rfl, ⟨tyX1, tyX1_ok⟩, nmX1, rfl, by decide +kernel⟩
theorem fp_1_3 : Fp 1 3 true (.array .int) := ⟨(RX1, TX1, 15), rfl, ⟨tyX1, tyX1_ok⟩, nmX1, rfl, by decide +kernel⟩
theorem fp_1_4 : Fp 1 4 true (.array .int) := ⟨(RX1, TX1, 15), rfl, ⟨tyX1, tyX1_ok⟩, nmX1, rfl, by decide +kernel⟩
theorem fp_1_5 : Fp 1 5 true (.array .int) := ⟨(RX1, TX1, 15), rfl, ⟨tyX1, tyX1_ok⟩, nmX1, rfl, by decide +kernel⟩
theorem fp_1_6 : Fp 1 6 true (.array .int) := ⟨(RX1, TX1, 15), rfl, ⟨tyX1, tyX1_ok⟩, nmX1, rfl, by decide +kernel⟩
theorem fp_1_7 : Fp 1 7 true (.array .long) := ⟨(RX1, TX1, 15), rfl, ⟨tyX1, tyX1_ok⟩, nmX1, rfl, by decide +kernel⟩
theorem fp_1_8 : Fp 1 8 true (.array .long) := ⟨(RX1, TX1, 15), rfl, ⟨tyX1, tyX1_ok⟩, nmX1, rfl, by decide +kernel⟩
theorem fp_1_9 : Fp 1 9 true (.array .long) := ⟨(RX1, TX1, 15), rfl, ⟨tyX1, tyX1_ok⟩, nmX1, rfl, by decide +kernel⟩
theorem fp_1_10 : Fp 1 10 true (.array .int) := ⟨(RX1, TX1, 15), rfl, ⟨tyX1, tyX1_ok⟩, nmX1, rfl, by decide +kernel⟩
theorem fp_1_11 : Fp 1 11 true (.array .int) := ⟨(RX1, TX1, 15), rfl, ⟨tyX1, tyX1_ok⟩, nmX1, rfl, by decide +kernel⟩
theorem fp_1_12 : Fp 1 12 true (.array .int) := ⟨(RX1, TX1, 15), rfl, ⟨tyX1, tyX1_ok⟩, nmX1, rfl, by decide +kernel⟩
theorem fp_1_13 : Fp 1 13 true (.array .long) := ⟨(RX1, TX1, 15), rfl, ⟨tyX1, tyX1_ok⟩, nmX1, rfl, by decide +kernel⟩
theorem fp_1_14 : Fp 1 14 false .int := ⟨(RX1, TX1, 15), rfl, ⟨tyX1, tyX1_ok⟩, nmX1, rfl, by decide +kernel⟩
theorem fp_2_0 : Fp 2 0 true (.array .int) := ⟨(RX2, TX2, 8), rfl, ⟨tyX2, tyX2_ok⟩, nmX2, rfl, by decide +kernel⟩
theorem fp_2_1 : Fp 2 1 true (.array .int) := ⟨(RX2, TX2, 8), rfl, ⟨tyX2, tyX2_ok⟩, nmX2, rfl, by decide +kernel⟩
theorem fp_2_2 : Fp 2 2 true (.array .int) := ⟨(RX2, TX2, 8), rfl, ⟨tyX2, tyX2_ok⟩, nmX2, rfl, by decide +kernel⟩
theorem fp_2_3 : Fp 2 3 true (.array .int) := ⟨(RX2, TX2, 8), rfl, ⟨tyX2, tyX2_ok⟩, nmX2, rfl, by decide +kernel⟩
theorem fp_2_4 : Fp 2 4 true (.array .long) := ⟨(RX2, TX2, 8), rfl, ⟨tyX2, tyX2_ok⟩, nmX2, rfl, by decide +kernel⟩
theorem fp_2_5 : Fp 2 5 true (.array .int) := ⟨(RX2, TX2, 8), rfl, ⟨tyX2, tyX2_ok⟩, nmX2, rfl, by decide +kernel⟩
theorem fp_2_6 : Fp 2 6 false .long := ⟨(RX2, TX2, 8), rfl, ⟨tyX2, tyX2_ok⟩, nmX2, rfl, by decide +kernel⟩
theorem fp_2_7 : Fp 2 7 false .int := ⟨(RX2, TX2, 8), rfl, ⟨tyX2, tyX2_ok⟩, nmX2, rfl, by decide +kernel⟩
theorem fp_3_0 : Fp 3 0 true (.object "CountTables$Fiber") := ⟨(RX4, TX4, 11), rfl, ⟨tyX4, tyX4_ok⟩, nmX4, rfl, by decide +kernel⟩
theorem fp_3_1 : Fp 3 1 true (.array .long) := ⟨(RX4, TX4, 11), rfl, ⟨tyX4, tyX4_ok⟩, nmX4, rfl, by decide +kernel⟩
theorem fp_3_2 : Fp 3 2 true (.array .long) := ⟨(RX4, TX4, 11), rfl, ⟨tyX4, tyX4_ok⟩, nmX4, rfl, by decide +kernel⟩
theorem fp_3_3 : Fp 3 3 true (.array .boolean) := ⟨(RX4, TX4, 11), rfl, ⟨tyX4, tyX4_ok⟩, nmX4, rfl, by decide +kernel⟩
theorem fp_3_4 : Fp 3 4 true (.array .boolean) := ⟨(RX4, TX4, 11), rfl, ⟨tyX4, tyX4_ok⟩, nmX4, rfl, by decide +kernel⟩
theorem fp_3_5 : Fp 3 5 true (.array .long) := ⟨(RX4, TX4, 11), rfl, ⟨tyX4, tyX4_ok⟩, nmX4, rfl, by decide +kernel⟩
theorem fp_3_6 : Fp 3 6 true (.array .long) := ⟨(RX4, TX4, 11), rfl, ⟨tyX4, tyX4_ok⟩, nmX4, rfl, by decide +kernel⟩
theorem fp_3_7 : Fp 3 7 true (.array .long) := ⟨(RX4, TX4, 11), rfl, ⟨tyX4, tyX4_ok⟩, nmX4, rfl, by decide +kernel⟩
theorem fp_3_8 : Fp 3 8 false .long := ⟨(RX4, TX4, 11), rfl, ⟨tyX4, tyX4_ok⟩, nmX4, rfl, by decide +kernel⟩
theorem fp_3_9 : Fp 3 9 false .long := ⟨(RX4, TX4, 11), rfl, ⟨tyX4, tyX4_ok⟩, nmX4, rfl, by decide +kernel⟩
theorem fp_3_10 : Fp 3 10 false .long := ⟨(RX4, TX4, 11), rfl, ⟨tyX4, tyX4_ok⟩, nmX4, rfl, by decide +kernel⟩
theorem fp_4_0 : Fp 4 0 false .int := ⟨(RX5, TX5, 7), rfl, ⟨tyX5, tyX5_ok⟩, nmX5, rfl, by decide +kernel⟩
theorem fp_4_1 : Fp 4 1 false .int := ⟨(RX5, TX5, 7), rfl, ⟨tyX5, tyX5_ok⟩, nmX5, rfl, by decide +kernel⟩
theorem fp_4_2 : Fp 4 2 false .int := ⟨(RX5, TX5, 7), rfl, ⟨tyX5, tyX5_ok⟩, nmX5, rfl, by decide +kernel⟩
theorem fp_4_3 : Fp 4 3 true (.array .long) := ⟨(RX5, TX5, 7), rfl, ⟨tyX5, tyX5_ok⟩, nmX5, rfl, by decide +kernel⟩
theorem fp_4_4 : Fp 4 4 true (.array .int) := ⟨(RX5, TX5, 7), rfl, ⟨tyX5, tyX5_ok⟩, nmX5, rfl, by decide +kernel⟩
theorem fp_4_5 : Fp 4 5 true (.array .int) := ⟨(RX5, TX5, 7), rfl, ⟨tyX5, tyX5_ok⟩, nmX5, rfl, by decide +kernel⟩
theorem fp_4_6 : Fp 4 6 true (.array .int) := ⟨(RX5, TX5, 7), rfl, ⟨tyX5, tyX5_ok⟩, nmX5, rfl, by decide +kernel⟩
theorem fp_5_0 : Fp 5 0 true (.object "CountTables$Fiber") := ⟨(RX6, TX6, 18), rfl, ⟨tyX6, tyX6_ok⟩, nmX6, rfl, by decide +kernel⟩
theorem fp_5_1 : Fp 5 1 true (.object "CountTables$Moves") := ⟨(RX6, TX6, 18), rfl, ⟨tyX6, tyX6_ok⟩, nmX6, rfl, by decide +kernel⟩
theorem fp_5_2 : Fp 5 2 false .boolean := ⟨(RX6, TX6, 18), rfl, ⟨tyX6, tyX6_ok⟩, nmX6, rfl, by decide +kernel⟩
theorem fp_5_3 : Fp 5 3 false .int := ⟨(RX6, TX6, 18), rfl, ⟨tyX6, tyX6_ok⟩, nmX6, rfl, by decide +kernel⟩
theorem fp_5_4 : Fp 5 4 true (.array .long) := ⟨(RX6, TX6, 18), rfl, ⟨tyX6, tyX6_ok⟩, nmX6, rfl, by decide +kernel⟩
theorem fp_5_5 : Fp 5 5 true (.array .int) := ⟨(RX6, TX6, 18), rfl, ⟨tyX6, tyX6_ok⟩, nmX6, rfl, by decide +kernel⟩
theorem fp_5_6 : Fp 5 6 false (.array .int) := ⟨(RX6, TX6, 18), rfl, ⟨tyX6, tyX6_ok⟩, nmX6, rfl, by decide +kernel⟩
theorem fp_5_7 : Fp 5 7 false .int := ⟨(RX6, TX6, 18), rfl, ⟨tyX6, tyX6_ok⟩, nmX6, rfl, by decide +kernel⟩
theorem fp_5_8 : Fp 5 8 true (.array .int) := ⟨(RX6, TX6, 18), rfl, ⟨tyX6, tyX6_ok⟩, nmX6, rfl, by decide +kernel⟩
theorem fp_5_9 : Fp 5 9 true (.array .int) := ⟨(RX6, TX6, 18), rfl, ⟨tyX6, tyX6_ok⟩, nmX6, rfl, by decide +kernel⟩
theorem fp_5_10 : Fp 5 10 false .int := ⟨(RX6, TX6, 18), rfl, ⟨tyX6, tyX6_ok⟩, nmX6, rfl, by decide +kernel⟩
theorem fp_5_11 : Fp 5 11 false .int := ⟨(RX6, TX6, 18), rfl, ⟨tyX6, tyX6_ok⟩, nmX6, rfl, by decide +kernel⟩
theorem fp_5_12 : Fp 5 12 true (.array .int) := ⟨(RX6, TX6, 18), rfl, ⟨tyX6, tyX6_ok⟩, nmX6, rfl, by decide +kernel⟩
theorem fp_5_13 : Fp 5 13 false .int := ⟨(RX6, TX6, 18), rfl, ⟨tyX6, tyX6_ok⟩, nmX6, rfl, by decide +kernel⟩
theorem fp_5_14 : Fp 5 14 true (.array .int) := ⟨(RX6, TX6, 18), rfl, ⟨tyX6, tyX6_ok⟩, nmX6, rfl, by decide +kernel⟩
theorem fp_5_15 : Fp 5 15 false .int := ⟨(RX6, TX6, 18), rfl, ⟨tyX6, tyX6_ok⟩, nmX6, rfl, by decide +kernel⟩
theorem fp_5_16 : Fp 5 16 false (.array .long) := ⟨(RX6, TX6, 18), rfl, ⟨tyX6, tyX6_ok⟩, nmX6, rfl, by decide +kernel⟩
theorem fp_5_17 : Fp 5 17 false (.array .long) := ⟨(RX6, TX6, 18), rfl, ⟨tyX6, tyX6_ok⟩, nmX6, rfl, by decide +kernel⟩
theorem fp_6_0 : Fp 6 0 false .int := ⟨(RX8, TX8, 12), rfl, ⟨tyX8, tyX8_ok⟩, nmX8, rfl, by decide +kernel⟩
theorem fp_6_1 : Fp 6 1 false .int := ⟨(RX8, TX8, 12), rfl, ⟨tyX8, tyX8_ok⟩, nmX8, rfl, by decide +kernel⟩
theorem fp_6_2 : Fp 6 2 false .int := ⟨(RX8, TX8, 12), rfl, ⟨tyX8, tyX8_ok⟩, nmX8, rfl, by decide +kernel⟩
theorem fp_6_3 : Fp 6 3 false .int := ⟨(RX8, TX8, 12), rfl, ⟨tyX8, tyX8_ok⟩, nmX8, rfl, by decide +kernel⟩
theorem fp_6_4 : Fp 6 4 false .int := ⟨(RX8, TX8, 12), rfl, ⟨tyX8, tyX8_ok⟩, nmX8, rfl, by decide +kernel⟩
theorem fp_6_5 : Fp 6 5 false .int := ⟨(RX8, TX8, 12), rfl, ⟨tyX8, tyX8_ok⟩, nmX8, rfl, by decide +kernel⟩
theorem fp_6_6 : Fp 6 6 true (.array .int) := ⟨(RX8, TX8, 12), rfl, ⟨tyX8, tyX8_ok⟩, nmX8, rfl, by decide +kernel⟩
theorem fp_6_7 : Fp 6 7 false .int := ⟨(RX8, TX8, 12), rfl, ⟨tyX8, tyX8_ok⟩, nmX8, rfl, by decide +kernel⟩
theorem fp_6_8 : Fp 6 8 false .int := ⟨(RX8, TX8, 12), rfl, ⟨tyX8, tyX8_ok⟩, nmX8, rfl, by decide +kernel⟩
theorem fp_6_9 : Fp 6 9 false .int := ⟨(RX8, TX8, 12), rfl, ⟨tyX8, tyX8_ok⟩, nmX8, rfl, by decide +kernel⟩
theorem fp_6_10 : Fp 6 10 false .int := ⟨(RX8, TX8, 12), rfl, ⟨tyX8, tyX8_ok⟩, nmX8, rfl, by decide +kernel⟩
theorem fp_6_11 : Fp 6 11 false .int := ⟨(RX8, TX8, 12), rfl, ⟨tyX8, tyX8_ok⟩, nmX8, rfl, by decide +kernel⟩
theorem fp_7_0 : Fp 7 0 false .int := ⟨(RX9, TX9, 10), rfl, ⟨tyX9, tyX9_ok⟩, nmX9, rfl, by decide +kernel⟩
theorem fp_7_1 : Fp 7 1 false .int := ⟨(RX9, TX9, 10), rfl, ⟨tyX9, tyX9_ok⟩, nmX9, rfl, by decide +kernel⟩
theorem fp_7_2 : Fp 7 2 false .int := ⟨(RX9, TX9, 10), rfl, ⟨tyX9, tyX9_ok⟩, nmX9, rfl, by decide +kernel⟩
theorem fp_7_3 : Fp 7 3 false .int := ⟨(RX9, TX9, 10), rfl, ⟨tyX9, tyX9_ok⟩, nmX9, rfl, by decide +kernel⟩
theorem fp_7_4 : Fp 7 4 false .int := ⟨(RX9, TX9, 10), rfl, ⟨tyX9, tyX9_ok⟩, nmX9, rfl, by decide +kernel⟩
theorem fp_7_5 : Fp 7 5 true (.array .int) := ⟨(RX9, TX9, 10), rfl, ⟨tyX9, tyX9_ok⟩, nmX9, rfl, by decide +kernel⟩
theorem fp_7_6 : Fp 7 6 true (.array .int) := ⟨(RX9, TX9, 10), rfl, ⟨tyX9, tyX9_ok⟩, nmX9, rfl, by decide +kernel⟩
theorem fp_7_7 : Fp 7 7 false .long := ⟨(RX9, TX9, 10), rfl, ⟨tyX9, tyX9_ok⟩, nmX9, rfl, by decide +kernel⟩
theorem fp_7_8 : Fp 7 8 false .int := ⟨(RX9, TX9, 10), rfl, ⟨tyX9, tyX9_ok⟩, nmX9, rfl, by decide +kernel⟩
theorem fp_7_9 : Fp 7 9 true (.array .long) := ⟨(RX9, TX9, 10), rfl, ⟨tyX9, tyX9_ok⟩, nmX9, rfl, by decide +kernel⟩
theorem fp_8_0 : Fp 8 0 true (.array .int) := ⟨(RX10, TX10, 2), rfl, ⟨tyX10, tyX10_ok⟩, nmX10, rfl, by decide +kernel⟩
theorem fp_8_1 : Fp 8 1 false .int := ⟨(RX10, TX10, 2), rfl, ⟨tyX10, tyX10_ok⟩, nmX10, rfl, by decide +kernel⟩
theorem fp_9_0 : Fp 9 0 true (.object "CountTables$Tape") := ⟨(RX11, TX11, 8), rfl, ⟨tyX11, tyX11_ok⟩, nmX11, rfl, by decide +kernel⟩
theorem fp_9_1 : Fp 9 1 true (.object "CountTables$Reader") := ⟨(RX11, TX11, 8), rfl, ⟨tyX11, tyX11_ok⟩, nmX11, rfl, by decide +kernel⟩
theorem fp_9_2 : Fp 9 2 true (.object "CountTables$Sheet") := ⟨(RX11, TX11, 8), rfl, ⟨tyX11, tyX11_ok⟩, nmX11, rfl, by decide +kernel⟩
theorem fp_9_3 : Fp 9 3 true (.object "CountTables$Dice") := ⟨(RX11, TX11, 8), rfl, ⟨tyX11, tyX11_ok⟩, nmX11, rfl, by decide +kernel⟩
theorem fp_9_4 : Fp 9 4 true (.object "CountTables$Moves") := ⟨(RX11, TX11, 8), rfl, ⟨tyX11, tyX11_ok⟩, nmX11, rfl, by decide +kernel⟩
theorem fp_9_5 : Fp 9 5 true (.object "CountTables$Fiber") := ⟨(RX11, TX11, 8), rfl, ⟨tyX11, tyX11_ok⟩, nmX11, rfl, by decide +kernel⟩
theorem fp_9_6 : Fp 9 6 true (.object "CountTables$Measures") := ⟨(RX11, TX11, 8), rfl, ⟨tyX11, tyX11_ok⟩, nmX11, rfl, by decide +kernel⟩
theorem fp_9_7 : Fp 9 7 true (.object "CountTables$Net") := ⟨(RX11, TX11, 8), rfl, ⟨tyX11, tyX11_ok⟩, nmX11, rfl, by decide +kernel⟩
theorem fp_10_0 : Fp 10 0 true (.array .int) := ⟨(RX12, TX12, 40), rfl, ⟨tyX12, tyX12_ok⟩, nmX12, rfl, by decide +kernel⟩
theorem fp_10_1 : Fp 10 1 true (.array .int) := ⟨(RX12, TX12, 40), rfl, ⟨tyX12, tyX12_ok⟩, nmX12, rfl, by decide +kernel⟩
theorem fp_10_2 : Fp 10 2 true (.array .int) := ⟨(RX12, TX12, 40), rfl, ⟨tyX12, tyX12_ok⟩, nmX12, rfl, by decide +kernel⟩
theorem fp_10_3 : Fp 10 3 true (.array .int) := ⟨(RX12, TX12, 40), rfl, ⟨tyX12, tyX12_ok⟩, nmX12, rfl, by decide +kernel⟩
theorem fp_10_4 : Fp 10 4 false .int := ⟨(RX12, TX12, 40), rfl, ⟨tyX12, tyX12_ok⟩, nmX12, rfl, by decide +kernel⟩
theorem fp_10_5 : Fp 10 5 false .int := ⟨(RX12, TX12, 40), rfl, ⟨tyX12, tyX12_ok⟩, nmX12, rfl, by decide +kernel⟩
theorem fp_10_6 : Fp 10 6 false .int := ⟨(RX12, TX12, 40), rfl, ⟨tyX12, tyX12_ok⟩, nmX12, rfl, by decide +kernel⟩
theorem fp_10_7 : Fp 10 7 false .int := ⟨(RX12, TX12, 40), rfl, ⟨tyX12, tyX12_ok⟩, nmX12, rfl, by decide +kernel⟩
theorem fp_10_8 : Fp 10 8 false .int := ⟨(RX12, TX12, 40), rfl, ⟨tyX12, tyX12_ok⟩, nmX12, rfl, by decide +kernel⟩
theorem fp_10_9 : Fp 10 9 false .int := ⟨(RX12, TX12, 40), rfl, ⟨tyX12, tyX12_ok⟩, nmX12, rfl, by decide +kernel⟩
theorem fp_10_10 : Fp 10 10 false .int := ⟨(RX12, TX12, 40), rfl, ⟨tyX12, tyX12_ok⟩, nmX12, rfl, by decide +kernel⟩
theorem fp_10_11 : Fp 10 11 false .int := ⟨(RX12, TX12, 40), rfl, ⟨tyX12, tyX12_ok⟩, nmX12, rfl, by decide +kernel⟩
theorem fp_10_12 : Fp 10 12 false .boolean := ⟨(RX12, TX12, 40), rfl, ⟨tyX12, tyX12_ok⟩, nmX12, rfl, by decide +kernel⟩
theorem fp_10_13 : Fp 10 13 false .int := ⟨(RX12, TX12, 40), rfl, ⟨tyX12, tyX12_ok⟩, nmX12, rfl, by decide +kernel⟩
theorem fp_10_14 : Fp 10 14 false .boolean := ⟨(RX12, TX12, 40), rfl, ⟨tyX12, tyX12_ok⟩, nmX12, rfl, by decide +kernel⟩
theorem fp_10_15 : Fp 10 15 false .long := ⟨(RX12, TX12, 40), rfl, ⟨tyX12, tyX12_ok⟩, nmX12, rfl, by decide +kernel⟩
theorem fp_10_16 : Fp 10 16 false .long := ⟨(RX12, TX12, 40), rfl, ⟨tyX12, tyX12_ok⟩, nmX12, rfl, by decide +kernel⟩
theorem fp_10_17 : Fp 10 17 false .long := ⟨(RX12, TX12, 40), rfl, ⟨tyX12, tyX12_ok⟩, nmX12, rfl, by decide +kernel⟩
theorem fp_10_18 : Fp 10 18 true (.array .int) := ⟨(RX12, TX12, 40), rfl, ⟨tyX12, tyX12_ok⟩, nmX12, rfl, by decide +kernel⟩
theorem fp_10_19 : Fp 10 19 true (.array .int) := ⟨(RX12, TX12, 40), rfl, ⟨tyX12, tyX12_ok⟩, nmX12, rfl, by decide +kernel⟩
theorem fp_10_20 : Fp 10 20 true (.array .int) := ⟨(RX12, TX12, 40), rfl, ⟨tyX12, tyX12_ok⟩, nmX12, rfl, by decide +kernel⟩
theorem fp_10_21 : Fp 10 21 true (.array .long) := ⟨(RX12, TX12, 40), rfl, ⟨tyX12, tyX12_ok⟩, nmX12, rfl, by decide +kernel⟩
theorem fp_10_22 : Fp 10 22 false .long := ⟨(RX12, TX12, 40), rfl, ⟨tyX12, tyX12_ok⟩, nmX12, rfl, by decide +kernel⟩
theorem fp_10_23 : Fp 10 23 false .long := ⟨(RX12, TX12, 40), rfl, ⟨tyX12, tyX12_ok⟩, nmX12, rfl, by decide +kernel⟩
theorem fp_10_24 : Fp 10 24 false .long := ⟨(RX12, TX12, 40), rfl, ⟨tyX12, tyX12_ok⟩, nmX12, rfl, by decide +kernel⟩
theorem fp_10_25 : Fp 10 25 false .long := ⟨(RX12, TX12, 40), rfl, ⟨tyX12, tyX12_ok⟩, nmX12, rfl, by decide +kernel⟩
theorem fp_10_26 : Fp 10 26 false .long := ⟨(RX12, TX12, 40), rfl, ⟨tyX12, tyX12_ok⟩, nmX12, rfl, by decide +kernel⟩
theorem fp_10_27 : Fp 10 27 false .int := ⟨(RX12, TX12, 40), rfl, ⟨tyX12, tyX12_ok⟩, nmX12, rfl, by decide +kernel⟩
theorem fp_10_28 : Fp 10 28 false .long := ⟨(RX12, TX12, 40), rfl, ⟨tyX12, tyX12_ok⟩, nmX12, rfl, by decide +kernel⟩
theorem fp_10_29 : Fp 10 29 false .long := ⟨(RX12, TX12, 40), rfl, ⟨tyX12, tyX12_ok⟩, nmX12, rfl, by decide +kernel⟩
theorem fp_10_30 : Fp 10 30 false .long := ⟨(RX12, TX12, 40), rfl, ⟨tyX12, tyX12_ok⟩, nmX12, rfl, by decide +kernel⟩
theorem fp_10_31 : Fp 10 31 true (.array .int) := ⟨(RX12, TX12, 40), rfl, ⟨tyX12, tyX12_ok⟩, nmX12, rfl, by decide +kernel⟩
theorem fp_10_32 : Fp 10 32 false .int := ⟨(RX12, TX12, 40), rfl, ⟨tyX12, tyX12_ok⟩, nmX12, rfl, by decide +kernel⟩
theorem fp_10_33 : Fp 10 33 true (.array .int) := ⟨(RX12, TX12, 40), rfl, ⟨tyX12, tyX12_ok⟩, nmX12, rfl, by decide +kernel⟩
theorem fp_10_34 : Fp 10 34 true (.array .int) := ⟨(RX12, TX12, 40), rfl, ⟨tyX12, tyX12_ok⟩, nmX12, rfl, by decide +kernel⟩
theorem fp_10_35 : Fp 10 35 true (.array .int) := ⟨(RX12, TX12, 40), rfl, ⟨tyX12, tyX12_ok⟩, nmX12, rfl, by decide +kernel⟩
theorem fp_10_36 : Fp 10 36 false .int := ⟨(RX12, TX12, 40), rfl, ⟨tyX12, tyX12_ok⟩, nmX12, rfl, by decide +kernel⟩
theorem fp_10_37 : Fp 10 37 true (.array .long) := ⟨(RX12, TX12, 40), rfl, ⟨tyX12, tyX12_ok⟩, nmX12, rfl, by decide +kernel⟩
theorem fp_10_38 : Fp 10 38 true (.array .long) := ⟨(RX12, TX12, 40), rfl, ⟨tyX12, tyX12_ok⟩, nmX12, rfl, by decide +kernel⟩
theorem fp_10_39 : Fp 10 39 false .long := ⟨(RX12, TX12, 40), rfl, ⟨tyX12, tyX12_ok⟩, nmX12, rfl, by decide +kernel⟩
theorem wMath : Cond.initialized "java/lang/Math" ∈ Wg := inW1 (i := 13) (by decide +kernel) rfl
theorem wObjI : Cond.instanceMethod objectInit ∈ Wg := inW1 (i := 31) (by decide +kernel) rfl
theorem wObjC : Cond.code objectInit ⟨#[0xb1]⟩ 1 none ∈ Wg := inW1 (i := 32) rfl rfl
theorem wmmaxIS : Cond.static Lib.Math.max.name ∈ Wg := inW3 (i := 138) (by decide +kernel) rfl
theorem wmmaxIC : Cond.code Lib.Math.max.name Lib.Math.max.code 2 (some .int) ∈ Wg := inW3 (i := 139) rfl rfl
theorem wmminIS : Cond.static Lib.Math.min.name ∈ Wg := inW2 (i := 213) (by decide +kernel) rfl
theorem wmminIC : Cond.code Lib.Math.min.name Lib.Math.min.code 2 (some .int) ∈ Wg := inW2 (i := 214) rfl rfl
theorem wmmaxLS : Cond.static Lib.MathLoose.max_long.x ∈ Wg := inW3 (i := 159) (by decide +kernel) rfl
theorem wmmaxLC : Cond.code Lib.MathLoose.max_long.x Lib.MathLoose.max_long.code 4 (some .long) ∈ Wg := inW3 (i := 160) rfl rfl
theorem wmminLS : Cond.static Lib.MathLoose.min_long.x ∈ Wg := inW4 (i := 225) (by decide +kernel) rfl
theorem wmminLC : Cond.code Lib.MathLoose.min_long.x Lib.MathLoose.min_long.code 4 (some .long) ∈ Wg := inW4 (i := 226) rfl rfl
theorem wRawDn : Cond.native ⟨"java/lang/Double", "doubleToRawLongBits", "(D)J"⟩ ∈ Wg := inW8 (i := 29) (by decide +kernel) rfl
theorem wRawDs : Cond.static ⟨"java/lang/Double", "doubleToRawLongBits", "(D)J"⟩ ∈ Wg := inW8 (i := 28) (by decide +kernel) rfl
theorem wRawDi : Cond.initialized "java/lang/Double" ∈ Wg := inW1 (i := 22) (by decide +kernel) rfl
theorem wRawFn : Cond.native ⟨"java/lang/Float", "floatToRawIntBits", "(F)I"⟩ ∈ Wg := inW8 (i := 43) (by decide +kernel) rfl
theorem wRawFs : Cond.static ⟨"java/lang/Float", "floatToRawIntBits", "(F)I"⟩ ∈ Wg := inW8 (i := 42) (by decide +kernel) rfl
theorem wRawFi : Cond.initialized "java/lang/Float" ∈ Wg := inW1 (i := 23) (by decide +kernel) rfl
theorem wSysI : Cond.initialized "java/lang/System" ∈ Wg := inW1 (i := 24) (by decide +kernel) rfl
theorem wCpyN : Cond.native arraycopyName ∈ Wg := inW5 (i := 139) (by decide +kernel) rfl
theorem wCpyS : Cond.static arraycopyName ∈ Wg := inW5 (i := 138) (by decide +kernel) rfl
theorem wCpyL : Cond.methodLink RJ7 150 arraycopyName ∈ Wg := inW5 (i := 137) (by decide +kernel) rfl
theorem wArr_int : Cond.arrayClass .int ∈ Wg := inW1 (i := 48) (by decide +kernel) rfl
theorem wArr_long : Cond.arrayClass .long ∈ Wg := inW1 (i := 147) (by decide +kernel) rfl
theorem wArr_boolean : Cond.arrayClass .boolean ∈ Wg := inW2 (i := 80) (by decide +kernel) rfl
theorem wIns_0 : Cond.instantiable RX0 1 ∈ Wg := inW1 (i := 149) (by decide +kernel) rfl
theorem wIni_0 : Cond.initialized RX0 ∈ Wg := inW1 (i := 5) (by decide +kernel) rfl
theorem wIns_1 : Cond.instantiable RX1 15 ∈ Wg := inW1 (i := 190) (by decide +kernel) rfl
theorem wIni_1 : Cond.initialized RX1 ∈ Wg := inW1 (i := 7) (by decide +kernel) rfl
theorem wIns_2 : Cond.instantiable RX2 8 ∈ Wg := inW1 (i := 196) (by decide +kernel) rfl
theorem wIni_2 : Cond.initialized RX2 ∈ Wg := inW1 (i := 8) (by decide +kernel) rfl
theorem wIns_3 : Cond.instantiable RX4 11 ∈ Wg := inW2 (i := 41) (by decide +kernel) rfl
theorem wIni_3 : Cond.initialized RX4 ∈ Wg := inW1 (i := 9) (by decide +kernel) rfl
theorem wIns_4 : Cond.instantiable RX5 7 ∈ Wg := inW1 (i := 159) (by decide +kernel) rfl
theorem wIni_4 : Cond.initialized RX5 ∈ Wg := inW1 (i := 6) (by decide +kernel) rfl
theorem wIns_5 : Cond.instantiable RX6 18 ∈ Wg := inW2 (i := 82) (by decide +kernel) rfl
theorem wIni_5 : Cond.initialized RX6 ∈ Wg := inW1 (i := 10) (by decide +kernel) rfl
theorem wIns_6 : Cond.instantiable RX8 12 ∈ Wg := inW1 (i := 50) (by decide +kernel) rfl
theorem wIni_6 : Cond.initialized RX8 ∈ Wg := inW1 (i := 3) (by decide +kernel) rfl
theorem wIns_7 : Cond.instantiable RX9 10 ∈ Wg := inW1 (i := 99) (by decide +kernel) rfl
theorem wIni_7 : Cond.initialized RX9 ∈ Wg := inW1 (i := 4) (by decide +kernel) rfl
theorem wIns_8 : Cond.instantiable RX10 2 ∈ Wg := inW1 (i := 34) (by decide +kernel) rfl
theorem wIni_8 : Cond.initialized RX10 ∈ Wg := inW1 (i := 2) (by decide +kernel) rfl
theorem wIns_9 : Cond.instantiable RX11 8 ∈ Wg := inW1 (i := 26) (by decide +kernel) rfl
theorem wIni_9 : Cond.initialized RX11 ∈ Wg := inW1 (i := 1) (by decide +kernel) rfl
theorem wIns_10 : Cond.instantiable RX12 40 ∈ Wg := inW6 (i := 97) (by decide +kernel) rfl
theorem wIni_10 : Cond.initialized RX12 ∈ Wg := inW1 (i := 11) (by decide +kernel) rfl
