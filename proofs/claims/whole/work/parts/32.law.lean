set_option maxRecDepth 20000 in
theorem eL_law_18 {g : GX} {Q : Int32 → St → Prop} {d : Nat} {ρ ρ' : Rs} {S : St} (hρ : Ok ρ) {ρ2 : Rs} (hρ2 : Ok ρ2) (hcl2 : rc ρ2 ≤ rc ρ') (hul2 : ru ρ2 ≤ ru ρ') {ρ55 : Rs} (hρ55 : Ok ρ55) (hcl55 : rc ρ55 ≤ rc ρ') (hul55 : ru ρ55 ≤ ru ρ') {ρ57 : Rs} (hρ57 : Ok ρ57) (hcl57 : rc ρ57 ≤ rc ρ') (hul57 : ru ρ57 ≤ ru ρ') {ρ59 : Rs} (hρ59 : Ok ρ59) (hcl59 : rc ρ59 ≤ rc ρ') (hul59 : ru ρ59 ≤ ru ρ') {ρ61 : Rs} (hρ61 : Ok ρ61) (hcl61 : rc ρ61 ≤ rc ρ') (hul61 : ru ρ61 ≤ ru ρ') {ρ63 : Rs} (hρ63 : Ok ρ63) (hcl63 : rc ρ63 ≤ rc ρ') (hul63 : ru ρ63 ≤ ru ρ') {ρ65 : Rs} (hρ65 : Ok ρ65) (hcl65 : rc ρ65 ≤ rc ρ') (hul65 : ru ρ65 ≤ ru ρ') {ρ67 : Rs} (hρ67 : Ok ρ67) (hcl67 : rc ρ67 ≤ rc ρ') (hul67 : ru ρ67 ≤ ru ρ') {ρ69 : Rs} (hρ69 : Ok ρ69) (hcl69 : rc ρ69 ≤ rc ρ') (hul69 : ru ρ69 ≤ ru ρ') {ρ71 : Rs} (hρ71 : Ok ρ71) (hcl71 : rc ρ71 ≤ rc ρ') (hul71 : ru ρ71 ≤ ru ρ') (hcle : rc ρ ≤ rc ρ') (hule : ru ρ ≤ ru ρ') {x3 : Int32} (h : if ((Int32.ofNat (gN g)) - 6) < x3 then ρ = ρ' ∧ (Q 1 S) else vp_in x3 (gN g) ∧ (if ((gX g x3.toNatClampNeg) &&& 63) = 0 then vp_in (x3 + 1) (gN g) ∧ (vp_in (x3 + 2) (gN g) ∧ (vp_in (x3 + 3) (gN g) ∧ (vp_in (x3 + 4) (gN g) ∧ (vp_in (x3 + 5) (gN g) ∧ (CALLi g d mX11_feed [.ref 16, .int (gX g (x3 + 1).toNatClampNeg), .int (gX g (x3 + 2).toNatClampNeg), .int (gX g (x3 + 3).toNatClampNeg), .int (gX g (x3 + 4).toNatClampNeg), .int (gX g (x3 + 5).toNatClampNeg)] ρ ρ S (fun v1 S1 => vp_in (x3 + 1) (gN g) ∧ (vp_in (x3 + 2) (gN g) ∧ (vp_in (x3 + 3) (gN g) ∧ (vp_in (x3 + 4) (gN g) ∧ (vp_in (x3 + 5) (gN g) ∧ (CALLi g d mX12_feed [.ref 80, .int (gX g (x3 + 1).toNatClampNeg), .int (gX g (x3 + 2).toNatClampNeg), .int (gX g (x3 + 3).toNatClampNeg), .int (gX g (x3 + 4).toNatClampNeg), .int (gX g (x3 + 5).toNatClampNeg)] ρ ρ2 S1 (fun v2 S2 => if v1 = v2 then AW g ρ' (QI Q) (d + 1) mL_law 18 [(0, .ref 11), (1, .ref 16), (2, .ref 80), (3, .int (x3 + 6))] [] ρ2 S2 else ρ2 = ρ' ∧ (Q 0 S2))))))))))))) else (if ((gX g x3.toNatClampNeg) &&& 63) = 1 then vp_in (x3 + 1) (gN g) ∧ (CALLi g d mX11_end [.ref 16, .int (gX g (x3 + 1).toNatClampNeg)] ρ ρ S (fun v3 S3 => vp_in (x3 + 1) (gN g) ∧ (CALLi g d mX12_end [.ref 80, .int (gX g (x3 + 1).toNatClampNeg)] ρ ρ S3 (fun v4 S4 => if v3 = v4 then AW g ρ' (QI Q) (d + 1) mL_law 18 [(0, .ref 11), (1, .ref 16), (2, .ref 80), (3, .int (x3 + 6))] [] ρ S4 else ρ = ρ' ∧ (Q 0 S4))))) else (if ((gX g x3.toNatClampNeg) &&& 63) = 2 then CALLi g d mX11_table [.ref 16] ρ ρ S (fun v5 S5 => CALLi g d mX12_table [.ref 80] ρ ρ S5 (fun v6 S6 => if v5 = v6 then AW g ρ' (QI Q) (d + 1) mL_law 18 [(0, .ref 11), (1, .ref 16), (2, .ref 80), (3, .int (x3 + 6))] [] ρ S6 else ρ = ρ' ∧ (Q 0 S6))) else (if ((gX g x3.toNatClampNeg) &&& 63) = 3 then vp_in (x3 + 1) (gN g) ∧ (CALLi g d mX11_fault [.ref 16, .int (gX g (x3 + 1).toNatClampNeg)] ρ ρ S (fun v7 S7 => vp_in (x3 + 1) (gN g) ∧ (CALLi g d mX12_fault [.ref 80, .int (gX g (x3 + 1).toNatClampNeg)] ρ ρ S7 (fun v8 S8 => if v7 = v8 then AW g ρ' (QI Q) (d + 1) mL_law 18 [(0, .ref 11), (1, .ref 16), (2, .ref 80), (3, .int (x3 + 6))] [] ρ S8 else ρ = ρ' ∧ (Q 0 S8))))) else (if ((gX g x3.toNatClampNeg) &&& 63) = 4 then vp_in (x3 + 1) (gN g) ∧ (CALLi g d mX11_count [.ref 16, .int (gX g (x3 + 1).toNatClampNeg)] ρ ρ S (fun v9 S9 => vp_in (x3 + 1) (gN g) ∧ (CALLi g d mX12_count [.ref 80, .int (gX g (x3 + 1).toNatClampNeg)] ρ ρ S9 (fun v10 S10 => if v9 = v10 then AW g ρ' (QI Q) (d + 1) mL_law 18 [(0, .ref 11), (1, .ref 16), (2, .ref 80), (3, .int (x3 + 6))] [] ρ S10 else ρ = ρ' ∧ (Q 0 S10))))) else (if ((gX g x3.toNatClampNeg) &&& 63) = 5 then vp_in (x3 + 1) (gN g) ∧ (vp_in (x3 + 2) (gN g) ∧ (CALLi g d mX11_cell [.ref 16, .int (gX g (x3 + 1).toNatClampNeg), .int (gX g (x3 + 2).toNatClampNeg)] ρ ρ S (fun v11 S11 => vp_in (x3 + 1) (gN g) ∧ (vp_in (x3 + 2) (gN g) ∧ (CALLi g d mX12_cell [.ref 80, .int (gX g (x3 + 1).toNatClampNeg), .int (gX g (x3 + 2).toNatClampNeg)] ρ ρ S11 (fun v12 S12 => if v11 = v12 then AW g ρ' (QI Q) (d + 1) mL_law 18 [(0, .ref 11), (1, .ref 16), (2, .ref 80), (3, .int (x3 + 6))] [] ρ S12 else ρ = ρ' ∧ (Q 0 S12))))))) else (if ((gX g x3.toNatClampNeg) &&& 63) = 6 then vp_in (x3 + 1) (gN g) ∧ (vp_in (x3 + 2) (gN g) ∧ (CALLi g d mX11_hole [.ref 16, .int (gX g (x3 + 1).toNatClampNeg), .int (gX g (x3 + 2).toNatClampNeg)] ρ ρ S (fun v13 S13 => vp_in (x3 + 1) (gN g) ∧ (vp_in (x3 + 2) (gN g) ∧ (CALLi g d mX12_hole [.ref 80, .int (gX g (x3 + 1).toNatClampNeg), .int (gX g (x3 + 2).toNatClampNeg)] ρ ρ S13 (fun v14 S14 => if v13 = v14 then AW g ρ' (QI Q) (d + 1) mL_law 18 [(0, .ref 11), (1, .ref 16), (2, .ref 80), (3, .int (x3 + 6))] [] ρ S14 else ρ = ρ' ∧ (Q 0 S14))))))) else (if ((gX g x3.toNatClampNeg) &&& 63) = 7 then vp_in (x3 + 1) (gN g) ∧ (CALLi g d mX11_row [.ref 16, .int (gX g (x3 + 1).toNatClampNeg)] ρ ρ S (fun v15 S15 => vp_in (x3 + 1) (gN g) ∧ (CALLi g d mX12_row [.ref 80, .int (gX g (x3 + 1).toNatClampNeg)] ρ ρ S15 (fun v16 S16 => if v15 = v16 then AW g ρ' (QI Q) (d + 1) mL_law 18 [(0, .ref 11), (1, .ref 16), (2, .ref 80), (3, .int (x3 + 6))] [] ρ S16 else ρ = ρ' ∧ (Q 0 S16))))) else (if ((gX g x3.toNatClampNeg) &&& 63) = 8 then vp_in (x3 + 1) (gN g) ∧ (CALLi g d mX11_column [.ref 16, .int (gX g (x3 + 1).toNatClampNeg)] ρ ρ S (fun v17 S17 => vp_in (x3 + 1) (gN g) ∧ (CALLi g d mX12_column [.ref 80, .int (gX g (x3 + 1).toNatClampNeg)] ρ ρ S17 (fun v18 S18 => if v17 = v18 then AW g ρ' (QI Q) (d + 1) mL_law 18 [(0, .ref 11), (1, .ref 16), (2, .ref 80), (3, .int (x3 + 6))] [] ρ S18 else ρ = ρ' ∧ (Q 0 S18))))) else (if ((gX g x3.toNatClampNeg) &&& 63) = 9 then CALLl g d mX11_tables [.ref 16] ρ ρ S (fun v19 S19 => CALLl g d mX12_tables [.ref 80] ρ ρ S19 (fun v20 S20 => if v19 = v20 then AW g ρ' (QI Q) (d + 1) mL_law 18 [(0, .ref 11), (1, .ref 16), (2, .ref 80), (3, .int (x3 + 6))] [] ρ S20 else ρ = ρ' ∧ (Q 0 S20))) else (if ((gX g x3.toNatClampNeg) &&& 63) = 10 then CALLl g d mX11_rank [.ref 16] ρ ρ S (fun v21 S21 => CALLl g d mX12_rank [.ref 80] ρ ρ S21 (fun v22 S22 => if v21 = v22 then AW g ρ' (QI Q) (d + 1) mL_law 18 [(0, .ref 11), (1, .ref 16), (2, .ref 80), (3, .int (x3 + 6))] [] ρ S22 else ρ = ρ' ∧ (Q 0 S22))) else (if ((gX g x3.toNatClampNeg) &&& 63) = 11 then vp_in (x3 + 1) (gN g) ∧ (vp_in (x3 + 2) (gN g) ∧ (vp_in (x3 + 3) (gN g) ∧ (vp_in (x3 + 4) (gN g) ∧ (CALLi g d mX11_of [.ref 16, .long ((((gX g (x3 + 1).toNatClampNeg).toInt64) <<< ((32 : Int32).toInt64 &&& 63)) ||| (((gX g (x3 + 2).toNatClampNeg).toInt64) &&& 4294967295)), .int (gX g (x3 + 3).toNatClampNeg), .int (gX g (x3 + 4).toNatClampNeg)] ρ ρ S (fun v23 S23 => vp_in (x3 + 1) (gN g) ∧ (vp_in (x3 + 2) (gN g) ∧ (vp_in (x3 + 3) (gN g) ∧ (vp_in (x3 + 4) (gN g) ∧ (CALLi g d mX12_of [.ref 80, .long ((((gX g (x3 + 1).toNatClampNeg).toInt64) <<< ((32 : Int32).toInt64 &&& 63)) ||| (((gX g (x3 + 2).toNatClampNeg).toInt64) &&& 4294967295)), .int (gX g (x3 + 3).toNatClampNeg), .int (gX g (x3 + 4).toNatClampNeg)] ρ ρ S23 (fun v24 S24 => if v23 = v24 then AW g ρ' (QI Q) (d + 1) mL_law 18 [(0, .ref 11), (1, .ref 16), (2, .ref 80), (3, .int (x3 + 6))] [] ρ S24 else ρ = ρ' ∧ (Q 0 S24))))))))))) else (if ((gX g x3.toNatClampNeg) &&& 63) = 12 then vp_in (x3 + 1) (gN g) ∧ (vp_in (x3 + 2) (gN g) ∧ (CALLi g d mX11_least [.ref 16, .int (gX g (x3 + 1).toNatClampNeg), .int (gX g (x3 + 2).toNatClampNeg)] ρ ρ S (fun v25 S25 => vp_in (x3 + 1) (gN g) ∧ (vp_in (x3 + 2) (gN g) ∧ (CALLi g d mX12_least [.ref 80, .int (gX g (x3 + 1).toNatClampNeg), .int (gX g (x3 + 2).toNatClampNeg)] ρ ρ S25 (fun v26 S26 => if v25 = v26 then AW g ρ' (QI Q) (d + 1) mL_law 18 [(0, .ref 11), (1, .ref 16), (2, .ref 80), (3, .int (x3 + 6))] [] ρ S26 else ρ = ρ' ∧ (Q 0 S26))))))) else (if ((gX g x3.toNatClampNeg) &&& 63) = 13 then vp_in (x3 + 1) (gN g) ∧ (vp_in (x3 + 2) (gN g) ∧ (CALLi g d mX11_most [.ref 16, .int (gX g (x3 + 1).toNatClampNeg), .int (gX g (x3 + 2).toNatClampNeg)] ρ ρ S (fun v27 S27 => vp_in (x3 + 1) (gN g) ∧ (vp_in (x3 + 2) (gN g) ∧ (CALLi g d mX12_most [.ref 80, .int (gX g (x3 + 1).toNatClampNeg), .int (gX g (x3 + 2).toNatClampNeg)] ρ ρ S27 (fun v28 S28 => if v27 = v28 then AW g ρ' (QI Q) (d + 1) mL_law 18 [(0, .ref 11), (1, .ref 16), (2, .ref 80), (3, .int (x3 + 6))] [] ρ S28 else ρ = ρ' ∧ (Q 0 S28))))))) else (if ((gX g x3.toNatClampNeg) &&& 63) = 14 then CALLi g d mX11_fixed [.ref 16] ρ ρ S (fun v29 S29 => CALLi g d mX12_fixed [.ref 80] ρ ρ S29 (fun v30 S30 => if v29 = v30 then AW g ρ' (QI Q) (d + 1) mL_law 18 [(0, .ref 11), (1, .ref 16), (2, .ref 80), (3, .int (x3 + 6))] [] ρ S30 else ρ = ρ' ∧ (Q 0 S30))) else (if ((gX g x3.toNatClampNeg) &&& 63) = 15 then vp_in (x3 + 1) (gN g) ∧ (vp_in (x3 + 2) (gN g) ∧ (vp_in (x3 + 3) (gN g) ∧ (CALLl g d mX11_having [.ref 16, .int (gX g (x3 + 1).toNatClampNeg), .int (gX g (x3 + 2).toNatClampNeg), .int (gX g (x3 + 3).toNatClampNeg)] ρ ρ S (fun v31 S31 => vp_in (x3 + 1) (gN g) ∧ (vp_in (x3 + 2) (gN g) ∧ (vp_in (x3 + 3) (gN g) ∧ (CALLl g d mX12_having [.ref 80, .int (gX g (x3 + 1).toNatClampNeg), .int (gX g (x3 + 2).toNatClampNeg), .int (gX g (x3 + 3).toNatClampNeg)] ρ ρ S31 (fun v32 S32 => if v31 = v32 then AW g ρ' (QI Q) (d + 1) mL_law 18 [(0, .ref 11), (1, .ref 16), (2, .ref 80), (3, .int (x3 + 6))] [] ρ S32 else ρ = ρ' ∧ (Q 0 S32))))))))) else (if ((gX g x3.toNatClampNeg) &&& 63) = 16 then vp_in (x3 + 1) (gN g) ∧ (vp_in (x3 + 2) (gN g) ∧ (vp_in (x3 + 3) (gN g) ∧ (CALLl g d mX11_mean [.ref 16, .int (gX g (x3 + 1).toNatClampNeg), .int (gX g (x3 + 2).toNatClampNeg), .int (gX g (x3 + 3).toNatClampNeg)] ρ ρ S (fun v33 S33 => vp_in (x3 + 1) (gN g) ∧ (vp_in (x3 + 2) (gN g) ∧ (vp_in (x3 + 3) (gN g) ∧ (CALLl g d mX12_mean [.ref 80, .int (gX g (x3 + 1).toNatClampNeg), .int (gX g (x3 + 2).toNatClampNeg), .int (gX g (x3 + 3).toNatClampNeg)] ρ ρ S33 (fun v34 S34 => if v33 = v34 then AW g ρ' (QI Q) (d + 1) mL_law 18 [(0, .ref 11), (1, .ref 16), (2, .ref 80), (3, .int (x3 + 6))] [] ρ S34 else ρ = ρ' ∧ (Q 0 S34))))))))) else (if ((gX g x3.toNatClampNeg) &&& 63) = 17 then CALLl g d mX11_weight [.ref 16] ρ ρ S (fun v35 S35 => CALLl g d mX12_weight [.ref 80] ρ ρ S35 (fun v36 S36 => if v35 = v36 then AW g ρ' (QI Q) (d + 1) mL_law 18 [(0, .ref 11), (1, .ref 16), (2, .ref 80), (3, .int (x3 + 6))] [] ρ S36 else ρ = ρ' ∧ (Q 0 S36))) else (if ((gX g x3.toNatClampNeg) &&& 63) = 18 then CALLl g d mX11_weights [.ref 16] ρ ρ S (fun v37 S37 => CALLl g d mX12_weights [.ref 80] ρ ρ S37 (fun v38 S38 => if v37 = v38 then AW g ρ' (QI Q) (d + 1) mL_law 18 [(0, .ref 11), (1, .ref 16), (2, .ref 80), (3, .int (x3 + 6))] [] ρ S38 else ρ = ρ' ∧ (Q 0 S38))) else (if ((gX g x3.toNatClampNeg) &&& 63) = 19 then CALLl g d mX11_heaviest [.ref 16] ρ ρ S (fun v39 S39 => CALLl g d mX12_heaviest [.ref 80] ρ ρ S39 (fun v40 S40 => if v39 = v40 then AW g ρ' (QI Q) (d + 1) mL_law 18 [(0, .ref 11), (1, .ref 16), (2, .ref 80), (3, .int (x3 + 6))] [] ρ S40 else ρ = ρ' ∧ (Q 0 S40))) else (if ((gX g x3.toNatClampNeg) &&& 63) = 20 then CALLl g d mX11_lightest [.ref 16] ρ ρ S (fun v41 S41 => CALLl g d mX12_lightest [.ref 80] ρ ρ S41 (fun v42 S42 => if v41 = v42 then AW g ρ' (QI Q) (d + 1) mL_law 18 [(0, .ref 11), (1, .ref 16), (2, .ref 80), (3, .int (x3 + 6))] [] ρ S42 else ρ = ρ' ∧ (Q 0 S42))) else (if ((gX g x3.toNatClampNeg) &&& 63) = 21 then vp_in (x3 + 1) (gN g) ∧ (CALLl g d mX11_statistic [.ref 16, .int (gX g (x3 + 1).toNatClampNeg)] ρ ρ S (fun v43 S43 => vp_in (x3 + 1) (gN g) ∧ (CALLl g d mX12_statistic [.ref 80, .int (gX g (x3 + 1).toNatClampNeg)] ρ ρ S43 (fun v44 S44 => if v43 = v44 then AW g ρ' (QI Q) (d + 1) mL_law 18 [(0, .ref 11), (1, .ref 16), (2, .ref 80), (3, .int (x3 + 6))] [] ρ S44 else ρ = ρ' ∧ (Q 0 S44))))) else (if ((gX g x3.toNatClampNeg) &&& 63) = 22 then vp_in (x3 + 1) (gN g) ∧ (CALLl g d mX11_extreme [.ref 16, .int (gX g (x3 + 1).toNatClampNeg)] ρ ρ S (fun v45 S45 => vp_in (x3 + 1) (gN g) ∧ (CALLl g d mX12_extreme [.ref 80, .int (gX g (x3 + 1).toNatClampNeg)] ρ ρ S45 (fun v46 S46 => if v45 = v46 then AW g ρ' (QI Q) (d + 1) mL_law 18 [(0, .ref 11), (1, .ref 16), (2, .ref 80), (3, .int (x3 + 6))] [] ρ S46 else ρ = ρ' ∧ (Q 0 S46))))) else (if ((gX g x3.toNatClampNeg) &&& 63) = 23 then vp_in (x3 + 1) (gN g) ∧ (vp_in (x3 + 2) (gN g) ∧ (CALLl g d mX11_share [.ref 16, .int (gX g (x3 + 1).toNatClampNeg), .int (gX g (x3 + 2).toNatClampNeg)] ρ ρ S (fun v47 S47 => vp_in (x3 + 1) (gN g) ∧ (vp_in (x3 + 2) (gN g) ∧ (CALLl g d mX12_share [.ref 80, .int (gX g (x3 + 1).toNatClampNeg), .int (gX g (x3 + 2).toNatClampNeg)] ρ ρ S47 (fun v48 S48 => if v47 = v48 then AW g ρ' (QI Q) (d + 1) mL_law 18 [(0, .ref 11), (1, .ref 16), (2, .ref 80), (3, .int (x3 + 6))] [] ρ S48 else ρ = ρ' ∧ (Q 0 S48))))))) else (if ((gX g x3.toNatClampNeg) &&& 63) = 24 then CALLl g d mX11_chi [.ref 16] ρ ρ S (fun v49 S49 => CALLl g d mX12_chi [.ref 80] ρ ρ S49 (fun v50 S50 => if v49 = v50 then AW g ρ' (QI Q) (d + 1) mL_law 18 [(0, .ref 11), (1, .ref 16), (2, .ref 80), (3, .int (x3 + 6))] [] ρ S50 else ρ = ρ' ∧ (Q 0 S50))) else (if ((gX g x3.toNatClampNeg) &&& 63) = 25 then vp_in (x3 + 1) (gN g) ∧ (vp_in (x3 + 2) (gN g) ∧ (CALLi g d mX11_excess [.ref 16, .int (gX g (x3 + 1).toNatClampNeg), .int (gX g (x3 + 2).toNatClampNeg)] ρ ρ S (fun v51 S51 => vp_in (x3 + 1) (gN g) ∧ (vp_in (x3 + 2) (gN g) ∧ (CALLi g d mX12_excess [.ref 80, .int (gX g (x3 + 1).toNatClampNeg), .int (gX g (x3 + 2).toNatClampNeg)] ρ ρ S51 (fun v52 S52 => if v51 = v52 then AW g ρ' (QI Q) (d + 1) mL_law 18 [(0, .ref 11), (1, .ref 16), (2, .ref 80), (3, .int (x3 + 6))] [] ρ S52 else ρ = ρ' ∧ (Q 0 S52))))))) else (if ((gX g x3.toNatClampNeg) &&& 63) = 26 then CALLi g d mX11_swaps [.ref 16] ρ ρ S (fun v53 S53 => CALLi g d mX12_swaps [.ref 80] ρ ρ S53 (fun v54 S54 => if v53 = v54 then AW g ρ' (QI Q) (d + 1) mL_law 18 [(0, .ref 11), (1, .ref 16), (2, .ref 80), (3, .int (x3 + 6))] [] ρ S54 else ρ = ρ' ∧ (Q 0 S54))) else (if ((gX g x3.toNatClampNeg) &&& 63) = 27 then CALLi g d mX11_classes [.ref 16] ρ ρ55 S (fun v55 S55 => CALLi g d mX12_classes [.ref 80] ρ55 ρ55 S55 (fun v56 S56 => if v55 = v56 then AW g ρ' (QI Q) (d + 1) mL_law 18 [(0, .ref 11), (1, .ref 16), (2, .ref 80), (3, .int (x3 + 6))] [] ρ55 S56 else ρ55 = ρ' ∧ (Q 0 S56))) else (if ((gX g x3.toNatClampNeg) &&& 63) = 28 then CALLi g d mX11_joined [.ref 16] ρ ρ57 S (fun v57 S57 => CALLi g d mX12_joined [.ref 80] ρ57 ρ57 S57 (fun v58 S58 => if v57 = v58 then AW g ρ' (QI Q) (d + 1) mL_law 18 [(0, .ref 11), (1, .ref 16), (2, .ref 80), (3, .int (x3 + 6))] [] ρ57 S58 else ρ57 = ρ' ∧ (Q 0 S58))) else (if ((gX g x3.toNatClampNeg) &&& 63) = 29 then vp_in (x3 + 1) (gN g) ∧ (CALLi g d mX11_classOf [.ref 16, .int (gX g (x3 + 1).toNatClampNeg)] ρ ρ59 S (fun v59 S59 => vp_in (x3 + 1) (gN g) ∧ (CALLi g d mX12_classOf [.ref 80, .int (gX g (x3 + 1).toNatClampNeg)] ρ59 ρ59 S59 (fun v60 S60 => if v59 = v60 then AW g ρ' (QI Q) (d + 1) mL_law 18 [(0, .ref 11), (1, .ref 16), (2, .ref 80), (3, .int (x3 + 6))] [] ρ59 S60 else ρ59 = ρ' ∧ (Q 0 S60))))) else (if ((gX g x3.toNatClampNeg) &&& 63) = 30 then vp_in (x3 + 1) (gN g) ∧ (CALLi g d mX11_sized [.ref 16, .int (gX g (x3 + 1).toNatClampNeg)] ρ ρ61 S (fun v61 S61 => vp_in (x3 + 1) (gN g) ∧ (CALLi g d mX12_sized [.ref 80, .int (gX g (x3 + 1).toNatClampNeg)] ρ61 ρ61 S61 (fun v62 S62 => if v61 = v62 then AW g ρ' (QI Q) (d + 1) mL_law 18 [(0, .ref 11), (1, .ref 16), (2, .ref 80), (3, .int (x3 + 6))] [] ρ61 S62 else ρ61 = ρ' ∧ (Q 0 S62))))) else (if ((gX g x3.toNatClampNeg) &&& 63) = 31 then vp_in (x3 + 1) (gN g) ∧ (vp_in (x3 + 2) (gN g) ∧ (CALLi g d mX11_apart [.ref 16, .int (gX g (x3 + 1).toNatClampNeg), .int (gX g (x3 + 2).toNatClampNeg)] ρ ρ63 S (fun v63 S63 => vp_in (x3 + 1) (gN g) ∧ (vp_in (x3 + 2) (gN g) ∧ (CALLi g d mX12_apart [.ref 80, .int (gX g (x3 + 1).toNatClampNeg), .int (gX g (x3 + 2).toNatClampNeg)] ρ63 ρ63 S63 (fun v64 S64 => if v63 = v64 then AW g ρ' (QI Q) (d + 1) mL_law 18 [(0, .ref 11), (1, .ref 16), (2, .ref 80), (3, .int (x3 + 6))] [] ρ63 S64 else ρ63 = ρ' ∧ (Q 0 S64))))))) else (if ((gX g x3.toNatClampNeg) &&& 63) = 32 then CALLi g d mX11_far [.ref 16] ρ ρ65 S (fun v65 S65 => CALLi g d mX12_far [.ref 80] ρ65 ρ65 S65 (fun v66 S66 => if v65 = v66 then AW g ρ' (QI Q) (d + 1) mL_law 18 [(0, .ref 11), (1, .ref 16), (2, .ref 80), (3, .int (x3 + 6))] [] ρ65 S66 else ρ65 = ρ' ∧ (Q 0 S66))) else (if ((gX g x3.toNatClampNeg) &&& 63) = 33 then CALLi g d mX11_farthest [.ref 16] ρ ρ67 S (fun v67 S67 => CALLi g d mX12_farthest [.ref 80] ρ67 ρ67 S67 (fun v68 S68 => if v67 = v68 then AW g ρ' (QI Q) (d + 1) mL_law 18 [(0, .ref 11), (1, .ref 16), (2, .ref 80), (3, .int (x3 + 6))] [] ρ67 S68 else ρ67 = ρ' ∧ (Q 0 S68))) else (if ((gX g x3.toNatClampNeg) &&& 63) = 34 then vp_in (x3 + 1) (gN g) ∧ (CALLi g d mX11_within [.ref 16, .int (gX g (x3 + 1).toNatClampNeg)] ρ ρ69 S (fun v69 S69 => vp_in (x3 + 1) (gN g) ∧ (CALLi g d mX12_within [.ref 80, .int (gX g (x3 + 1).toNatClampNeg)] ρ69 ρ69 S69 (fun v70 S70 => if v69 = v70 then AW g ρ' (QI Q) (d + 1) mL_law 18 [(0, .ref 11), (1, .ref 16), (2, .ref 80), (3, .int (x3 + 6))] [] ρ69 S70 else ρ69 = ρ' ∧ (Q 0 S70))))) else (if ((gX g x3.toNatClampNeg) &&& 63) = 35 then vp_in (x3 + 1) (gN g) ∧ (vp_in (x3 + 2) (gN g) ∧ (CALLl g d mX11_ways [.ref 16, .int (gX g (x3 + 1).toNatClampNeg), .int (gX g (x3 + 2).toNatClampNeg)] ρ ρ71 S (fun v71 S71 => vp_in (x3 + 1) (gN g) ∧ (vp_in (x3 + 2) (gN g) ∧ (CALLl g d mX12_ways [.ref 80, .int (gX g (x3 + 1).toNatClampNeg), .int (gX g (x3 + 2).toNatClampNeg)] ρ71 ρ71 S71 (fun v72 S72 => if v71 = v72 then AW g ρ' (QI Q) (d + 1) mL_law 18 [(0, .ref 11), (1, .ref 16), (2, .ref 80), (3, .int (x3 + 6))] [] ρ71 S72 else ρ71 = ρ' ∧ (Q 0 S72))))))) else (if ((gX g x3.toNatClampNeg) &&& 63) = 36 then vp_in (x3 + 1) (gN g) ∧ (CALLl g d mX11_drawn [.ref 16, .int (gX g (x3 + 1).toNatClampNeg)] ρ ρ S (fun v73 S73 => vp_in (x3 + 1) (gN g) ∧ (CALLl g d mX12_drawn [.ref 80, .int (gX g (x3 + 1).toNatClampNeg)] ρ ρ S73 (fun v74 S74 => if v73 = v74 then AW g ρ' (QI Q) (d + 1) mL_law 18 [(0, .ref 11), (1, .ref 16), (2, .ref 80), (3, .int (x3 + 6))] [] ρ S74 else ρ = ρ' ∧ (Q 0 S74))))) else (if ((gX g x3.toNatClampNeg) &&& 63) = 37 then CALLi g d mX11_evenly [.ref 16] ρ ρ S (fun v75 S75 => CALLi g d mX12_evenly [.ref 80] ρ ρ S75 (fun v76 S76 => if v75 = v76 then AW g ρ' (QI Q) (d + 1) mL_law 18 [(0, .ref 11), (1, .ref 16), (2, .ref 80), (3, .int (x3 + 6))] [] ρ S76 else ρ = ρ' ∧ (Q 0 S76))) else (if ((gX g x3.toNatClampNeg) &&& 63) = 38 then vp_in (x3 + 1) (gN g) ∧ (vp_in (x3 + 2) (gN g) ∧ (vp_in (x3 + 3) (gN g) ∧ (vp_in (x3 + 4) (gN g) ∧ (CALLi g d mX11_swap [.ref 16, .int (gX g (x3 + 1).toNatClampNeg), .int (gX g (x3 + 2).toNatClampNeg), .int (gX g (x3 + 3).toNatClampNeg), .int (gX g (x3 + 4).toNatClampNeg)] ρ ρ S (fun v77 S77 => vp_in (x3 + 1) (gN g) ∧ (vp_in (x3 + 2) (gN g) ∧ (vp_in (x3 + 3) (gN g) ∧ (vp_in (x3 + 4) (gN g) ∧ (CALLi g d mX12_swap [.ref 80, .int (gX g (x3 + 1).toNatClampNeg), .int (gX g (x3 + 2).toNatClampNeg), .int (gX g (x3 + 3).toNatClampNeg), .int (gX g (x3 + 4).toNatClampNeg)] ρ ρ S77 (fun v78 S78 => if v77 = v78 then AW g ρ' (QI Q) (d + 1) mL_law 18 [(0, .ref 11), (1, .ref 16), (2, .ref 80), (3, .int (x3 + 6))] [] ρ S78 else ρ = ρ' ∧ (Q 0 S78))))))))))) else (if ((gX g x3.toNatClampNeg) &&& 63) = 39 then vp_in (x3 + 1) (gN g) ∧ (vp_in (x3 + 2) (gN g) ∧ (CALLi g d mX11_walk [.ref 16, .int (gX g (x3 + 1).toNatClampNeg), .int (gX g (x3 + 2).toNatClampNeg)] ρ ρ S (fun v79 S79 => vp_in (x3 + 1) (gN g) ∧ (vp_in (x3 + 2) (gN g) ∧ (CALLi g d mX12_walk [.ref 80, .int (gX g (x3 + 1).toNatClampNeg), .int (gX g (x3 + 2).toNatClampNeg)] ρ ρ S79 (fun v80 S80 => if v79 = v80 then AW g ρ' (QI Q) (d + 1) mL_law 18 [(0, .ref 11), (1, .ref 16), (2, .ref 80), (3, .int (x3 + 6))] [] ρ S80 else ρ = ρ' ∧ (Q 0 S80))))))) else (if ((gX g x3.toNatClampNeg) &&& 63) = 40 then CALLi g d mX11_undo [.ref 16] ρ ρ S (fun v81 S81 => CALLi g d mX12_undo [.ref 80] ρ ρ S81 (fun v82 S82 => if v81 = v82 then AW g ρ' (QI Q) (d + 1) mL_law 18 [(0, .ref 11), (1, .ref 16), (2, .ref 80), (3, .int (x3 + 6))] [] ρ S82 else ρ = ρ' ∧ (Q 0 S82))) else (if ((gX g x3.toNatClampNeg) &&& 63) = 41 then CALLi g d mX11_anew [.ref 16] ρ ρ S (fun v83 S83 => CALLi g d mX12_anew [.ref 80] ρ ρ S83 (fun v84 S84 => if v83 = v84 then AW g ρ' (QI Q) (d + 1) mL_law 18 [(0, .ref 11), (1, .ref 16), (2, .ref 80), (3, .int (x3 + 6))] [] ρ S84 else ρ = ρ' ∧ (Q 0 S84))) else (AW g ρ' (QI Q) (d + 1) mL_law 18 [(0, .ref 11), (1, .ref 16), (2, .ref 80), (3, .int (x3 + 6))] [] ρ S)))))))))))))))))))))))))))))))))))))))))))) : AW g ρ' (QI Q) (d + 1) mL_law 18 [(0, .ref 11), (1, .ref 16), (2, .ref 80), (3, .int x3)] [] ρ S := by
  refine AW_iload_n 3 (n := 3) rfl dL_law_18 rfl ?_
  refine AW_aload_n 0 (n := 0) rfl dL_law_19 rfl ?_
  refine AW_slen dL_law_20 ?_
  refine AW_bipush (v := 6) dL_law_21 rfl ?_
  refine AW_isub dL_law_23 ?_
  refine AW_icmp_gt dL_law_24 rfl (iteM h (fun h => ?_) (fun h => ?_))
  · refine AW_iconst (v := 1) dL_law_1282 rfl ?_
    refine AW.rhoE h.1 ?_
    replace h := h.2
    exact AW_retz dL_law_1283 rfl Bz1 h
  · refine AW_aload_n 0 (n := 0) rfl dL_law_27 rfl ?_
    refine AW_iload_n 3 (n := 3) rfl dL_law_28 rfl ?_
    refine AW_sld dL_law_29 h.1 ?_
    replace h := h.2
    refine AW_bipush (v := 63) dL_law_30 rfl ?_
    refine AW_iand dL_law_32 ?_
    by_cases hc : ((gX g x3.toNatClampNeg) &&& 63) = 0
    · rw [if_pos hc] at h
      refine AW_tswIn (tgt := 216) dL_law_33 (by rw [hc]; decide) (by rw [hc]; decide) (by rw [hc]; rfl) rfl ?_
      refine AW_aload_n 1 (n := 1) rfl dL_law_216 rfl ?_
      refine AW_aload_n 0 (n := 0) rfl dL_law_217 rfl ?_
      refine AW_iload_n 3 (n := 3) rfl dL_law_218 rfl ?_
      refine AW_iconst (v := 1) dL_law_219 rfl ?_
      refine AW_iadd dL_law_220 ?_
      refine AW_sld dL_law_221 h.1 ?_
      replace h := h.2
      refine AW_aload_n 0 (n := 0) rfl dL_law_222 rfl ?_
      refine AW_iload_n 3 (n := 3) rfl dL_law_223 rfl ?_
      refine AW_iconst (v := 2) dL_law_224 rfl ?_
      refine AW_iadd dL_law_225 ?_
      refine AW_sld dL_law_226 h.1 ?_
      replace h := h.2
      refine AW_aload_n 0 (n := 0) rfl dL_law_227 rfl ?_
      refine AW_iload_n 3 (n := 3) rfl dL_law_228 rfl ?_
      refine AW_iconst (v := 3) dL_law_229 rfl ?_
      refine AW_iadd dL_law_230 ?_
      refine AW_sld dL_law_231 h.1 ?_
      replace h := h.2
      refine AW_aload_n 0 (n := 0) rfl dL_law_232 rfl ?_
      refine AW_iload_n 3 (n := 3) rfl dL_law_233 rfl ?_
      refine AW_iconst (v := 4) dL_law_234 rfl ?_
      refine AW_iadd dL_law_235 ?_
      refine AW_sld dL_law_236 h.1 ?_
      replace h := h.2
      refine AW_aload_n 0 (n := 0) rfl dL_law_237 rfl ?_
      refine AW_iload_n 3 (n := 3) rfl dL_law_238 rfl ?_
      refine AW_iconst (v := 5) dL_law_239 rfl ?_
      refine AW_iadd dL_law_240 ?_
      refine AW_sld dL_law_241 h.1 ?_
      replace h := h.2
      refine AW_callVi (M := mL_law) (pc := 242) (As := [.int (gX g (x3 + 1).toNatClampNeg), .int (gX g (x3 + 2).toNatClampNeg), .int (gX g (x3 + 3).toNatClampNeg), .int (gX g (x3 + 4).toNatClampNeg), .int (gX g (x3 + 5).toNatClampNeg)]) (ρ1 := ρ) (st := []) dL_law_242 mdX11_feed rfl mlL_13 imX11_feed seX11_feed (rcv_of (q := (RX11, TX11, 8)) (Nat.le_of_ble_eq_true rfl) (okn hρ (Nat.le_of_ble_eq_true rfl)) rfl rfl) ⟨rfl, npX11_feed⟩ (Nat.le_of_ble_eq_true rfl) hcle hule rfl (CALLi.mono h (fun v1 S1 _ h => ?_))
      refine AW_aload_n 2 (n := 2) rfl dL_law_245 rfl ?_
      refine AW_aload_n 0 (n := 0) rfl dL_law_246 rfl ?_
      refine AW_iload_n 3 (n := 3) rfl dL_law_247 rfl ?_
      refine AW_iconst (v := 1) dL_law_248 rfl ?_
      refine AW_iadd dL_law_249 ?_
      refine AW_sld dL_law_250 h.1 ?_
      replace h := h.2
      refine AW_aload_n 0 (n := 0) rfl dL_law_251 rfl ?_
      refine AW_iload_n 3 (n := 3) rfl dL_law_252 rfl ?_
      refine AW_iconst (v := 2) dL_law_253 rfl ?_
      refine AW_iadd dL_law_254 ?_
      refine AW_sld dL_law_255 h.1 ?_
      replace h := h.2
      refine AW_aload_n 0 (n := 0) rfl dL_law_256 rfl ?_
      refine AW_iload_n 3 (n := 3) rfl dL_law_257 rfl ?_
      refine AW_iconst (v := 3) dL_law_258 rfl ?_
      refine AW_iadd dL_law_259 ?_
      refine AW_sld dL_law_260 h.1 ?_
      replace h := h.2
      refine AW_aload_n 0 (n := 0) rfl dL_law_261 rfl ?_
      refine AW_iload_n 3 (n := 3) rfl dL_law_262 rfl ?_
      refine AW_iconst (v := 4) dL_law_263 rfl ?_
      refine AW_iadd dL_law_264 ?_
      refine AW_sld dL_law_265 h.1 ?_
      replace h := h.2
      refine AW_aload_n 0 (n := 0) rfl dL_law_266 rfl ?_
      refine AW_iload_n 3 (n := 3) rfl dL_law_267 rfl ?_
      refine AW_iconst (v := 5) dL_law_268 rfl ?_
      refine AW_iadd dL_law_269 ?_
      refine AW_sld dL_law_270 h.1 ?_
      replace h := h.2
      refine AW_callVi (M := mL_law) (pc := 271) (As := [.int (gX g (x3 + 1).toNatClampNeg), .int (gX g (x3 + 2).toNatClampNeg), .int (gX g (x3 + 3).toNatClampNeg), .int (gX g (x3 + 4).toNatClampNeg), .int (gX g (x3 + 5).toNatClampNeg)]) (ρ1 := ρ2) (st := [.int v1]) dL_law_271 mdX12_feed rfl mlL_17 imX12_feed seX12_feed (rcv_of (q := (RX12, TX12, 40)) (Nat.le_of_ble_eq_true rfl) (okn hρ (Nat.le_of_ble_eq_true rfl)) rfl rfl) ⟨rfl, npX12_feed⟩ (Nat.le_of_ble_eq_true rfl) hcl2 hul2 rfl (CALLi.mono h (fun v2 S2 _ h => ?_))
      refine AW_icmp_eq dL_law_274 rfl (iteM h (fun h => ?_) (fun h => ?_))
      · refine AW_iinc 3 (v := x3 + 6) dL_law_1276 rfl rfl (Nat.le_of_ble_eq_true rfl) rfl ?_
        refine AW_goto (tgt := 18) dL_law_1279 rfl ?_
        exact AW.sub [1, 2, 3, 0] rfl h
      · refine AW_iconst (v := 0) dL_law_277 rfl ?_
        refine AW.rhoE h.1 ?_
        replace h := h.2
        exact AW_retz dL_law_278 rfl Bz0 h
    rw [if_neg hc] at h
    have hc0 := hc
    clear hc
    by_cases hc : ((gX g x3.toNatClampNeg) &&& 63) = 1
    · rw [if_pos hc] at h
      refine AW_tswIn (tgt := 279) dL_law_33 (by rw [hc]; decide) (by rw [hc]; decide) (by rw [hc]; rfl) rfl ?_
      refine AW_aload_n 1 (n := 1) rfl dL_law_279 rfl ?_
      refine AW_aload_n 0 (n := 0) rfl dL_law_280 rfl ?_
      refine AW_iload_n 3 (n := 3) rfl dL_law_281 rfl ?_
      refine AW_iconst (v := 1) dL_law_282 rfl ?_
      refine AW_iadd dL_law_283 ?_
      refine AW_sld dL_law_284 h.1 ?_
      replace h := h.2
      refine AW_callVi (M := mL_law) (pc := 285) (As := [.int (gX g (x3 + 1).toNatClampNeg)]) (ρ1 := ρ) (st := []) dL_law_285 mdX11_end rfl mlL_18 imX11_end seX11_end (rcv_of (q := (RX11, TX11, 8)) (Nat.le_of_ble_eq_true rfl) (okn hρ (Nat.le_of_ble_eq_true rfl)) rfl rfl) ⟨rfl, npX11_end⟩ (Nat.le_of_ble_eq_true rfl) hcle hule rfl (CALLi.mono h (fun v3 S3 _ h => ?_))
      refine AW_aload_n 2 (n := 2) rfl dL_law_288 rfl ?_
      refine AW_aload_n 0 (n := 0) rfl dL_law_289 rfl ?_
      refine AW_iload_n 3 (n := 3) rfl dL_law_290 rfl ?_
      refine AW_iconst (v := 1) dL_law_291 rfl ?_
      refine AW_iadd dL_law_292 ?_
      refine AW_sld dL_law_293 h.1 ?_
      replace h := h.2
      refine AW_callVi (M := mL_law) (pc := 294) (As := [.int (gX g (x3 + 1).toNatClampNeg)]) (ρ1 := ρ) (st := [.int v3]) dL_law_294 mdX12_end rfl mlL_22 imX12_end seX12_end (rcv_of (q := (RX12, TX12, 40)) (Nat.le_of_ble_eq_true rfl) (okn hρ (Nat.le_of_ble_eq_true rfl)) rfl rfl) ⟨rfl, npX12_end⟩ (Nat.le_of_ble_eq_true rfl) hcle hule rfl (CALLi.mono h (fun v4 S4 _ h => ?_))
      refine AW_icmp_eq dL_law_297 rfl (iteM h (fun h => ?_) (fun h => ?_))
      · refine AW_iinc 3 (v := x3 + 6) dL_law_1276 rfl rfl (Nat.le_of_ble_eq_true rfl) rfl ?_
        refine AW_goto (tgt := 18) dL_law_1279 rfl ?_
        exact AW.sub [1, 2, 3, 0] rfl h
      · refine AW_iconst (v := 0) dL_law_300 rfl ?_
        refine AW.rhoE h.1 ?_
        replace h := h.2
        exact AW_retz dL_law_301 rfl Bz0 h
    rw [if_neg hc] at h
    have hc1 := hc
    clear hc
    by_cases hc : ((gX g x3.toNatClampNeg) &&& 63) = 2
    · rw [if_pos hc] at h
      refine AW_tswIn (tgt := 302) dL_law_33 (by rw [hc]; decide) (by rw [hc]; decide) (by rw [hc]; rfl) rfl ?_
      refine AW_aload_n 1 (n := 1) rfl dL_law_302 rfl ?_
      refine AW_callVi (M := mL_law) (pc := 303) (As := []) (ρ1 := ρ) (st := []) dL_law_303 mdX11_table rfl mlL_23 imX11_table seX11_table (rcv_of (q := (RX11, TX11, 8)) (Nat.le_of_ble_eq_true rfl) (okn hρ (Nat.le_of_ble_eq_true rfl)) rfl rfl) ⟨rfl, npX11_table⟩ (Nat.le_of_ble_eq_true rfl) hcle hule rfl (CALLi.mono h (fun v5 S5 _ h => ?_))
      refine AW_aload_n 2 (n := 2) rfl dL_law_306 rfl ?_
      refine AW_callVi (M := mL_law) (pc := 307) (As := []) (ρ1 := ρ) (st := [.int v5]) dL_law_307 mdX12_table rfl mlL_27 imX12_table seX12_table (rcv_of (q := (RX12, TX12, 40)) (Nat.le_of_ble_eq_true rfl) (okn hρ (Nat.le_of_ble_eq_true rfl)) rfl rfl) ⟨rfl, npX12_table⟩ (Nat.le_of_ble_eq_true rfl) hcle hule rfl (CALLi.mono h (fun v6 S6 _ h => ?_))
      refine AW_icmp_eq dL_law_310 rfl (iteM h (fun h => ?_) (fun h => ?_))
      · refine AW_iinc 3 (v := x3 + 6) dL_law_1276 rfl rfl (Nat.le_of_ble_eq_true rfl) rfl ?_
        refine AW_goto (tgt := 18) dL_law_1279 rfl ?_
        exact AW.sub [1, 2, 3, 0] rfl h
      · refine AW_iconst (v := 0) dL_law_313 rfl ?_
        refine AW.rhoE h.1 ?_
        replace h := h.2
        exact AW_retz dL_law_314 rfl Bz0 h
    rw [if_neg hc] at h
    have hc2 := hc
    clear hc
    by_cases hc : ((gX g x3.toNatClampNeg) &&& 63) = 3
    · rw [if_pos hc] at h
      refine AW_tswIn (tgt := 315) dL_law_33 (by rw [hc]; decide) (by rw [hc]; decide) (by rw [hc]; rfl) rfl ?_
      refine AW_aload_n 1 (n := 1) rfl dL_law_315 rfl ?_
      refine AW_aload_n 0 (n := 0) rfl dL_law_316 rfl ?_
      refine AW_iload_n 3 (n := 3) rfl dL_law_317 rfl ?_
      refine AW_iconst (v := 1) dL_law_318 rfl ?_
      refine AW_iadd dL_law_319 ?_
      refine AW_sld dL_law_320 h.1 ?_
      replace h := h.2
      refine AW_callVi (M := mL_law) (pc := 321) (As := [.int (gX g (x3 + 1).toNatClampNeg)]) (ρ1 := ρ) (st := []) dL_law_321 mdX11_fault rfl mlL_28 imX11_fault seX11_fault (rcv_of (q := (RX11, TX11, 8)) (Nat.le_of_ble_eq_true rfl) (okn hρ (Nat.le_of_ble_eq_true rfl)) rfl rfl) ⟨rfl, npX11_fault⟩ (Nat.le_of_ble_eq_true rfl) hcle hule rfl (CALLi.mono h (fun v7 S7 _ h => ?_))
      refine AW_aload_n 2 (n := 2) rfl dL_law_324 rfl ?_
      refine AW_aload_n 0 (n := 0) rfl dL_law_325 rfl ?_
      refine AW_iload_n 3 (n := 3) rfl dL_law_326 rfl ?_
      refine AW_iconst (v := 1) dL_law_327 rfl ?_
      refine AW_iadd dL_law_328 ?_
      refine AW_sld dL_law_329 h.1 ?_
      replace h := h.2
      refine AW_callVi (M := mL_law) (pc := 330) (As := [.int (gX g (x3 + 1).toNatClampNeg)]) (ρ1 := ρ) (st := [.int v7]) dL_law_330 mdX12_fault rfl mlL_31 imX12_fault seX12_fault (rcv_of (q := (RX12, TX12, 40)) (Nat.le_of_ble_eq_true rfl) (okn hρ (Nat.le_of_ble_eq_true rfl)) rfl rfl) ⟨rfl, npX12_fault⟩ (Nat.le_of_ble_eq_true rfl) hcle hule rfl (CALLi.mono h (fun v8 S8 _ h => ?_))
      refine AW_icmp_eq dL_law_333 rfl (iteM h (fun h => ?_) (fun h => ?_))
      · refine AW_iinc 3 (v := x3 + 6) dL_law_1276 rfl rfl (Nat.le_of_ble_eq_true rfl) rfl ?_
        refine AW_goto (tgt := 18) dL_law_1279 rfl ?_
        exact AW.sub [1, 2, 3, 0] rfl h
      · refine AW_iconst (v := 0) dL_law_336 rfl ?_
        refine AW.rhoE h.1 ?_
        replace h := h.2
        exact AW_retz dL_law_337 rfl Bz0 h
    rw [if_neg hc] at h
    have hc3 := hc
    clear hc
    by_cases hc : ((gX g x3.toNatClampNeg) &&& 63) = 4
    · rw [if_pos hc] at h
      refine AW_tswIn (tgt := 338) dL_law_33 (by rw [hc]; decide) (by rw [hc]; decide) (by rw [hc]; rfl) rfl ?_
      refine AW_aload_n 1 (n := 1) rfl dL_law_338 rfl ?_
      refine AW_aload_n 0 (n := 0) rfl dL_law_339 rfl ?_
      refine AW_iload_n 3 (n := 3) rfl dL_law_340 rfl ?_
      refine AW_iconst (v := 1) dL_law_341 rfl ?_
      refine AW_iadd dL_law_342 ?_
      refine AW_sld dL_law_343 h.1 ?_
      replace h := h.2
      refine AW_callVi (M := mL_law) (pc := 344) (As := [.int (gX g (x3 + 1).toNatClampNeg)]) (ρ1 := ρ) (st := []) dL_law_344 mdX11_count rfl mlL_32 imX11_count seX11_count (rcv_of (q := (RX11, TX11, 8)) (Nat.le_of_ble_eq_true rfl) (okn hρ (Nat.le_of_ble_eq_true rfl)) rfl rfl) ⟨rfl, npX11_count⟩ (Nat.le_of_ble_eq_true rfl) hcle hule rfl (CALLi.mono h (fun v9 S9 _ h => ?_))
      refine AW_aload_n 2 (n := 2) rfl dL_law_347 rfl ?_
      refine AW_aload_n 0 (n := 0) rfl dL_law_348 rfl ?_
      refine AW_iload_n 3 (n := 3) rfl dL_law_349 rfl ?_
      refine AW_iconst (v := 1) dL_law_350 rfl ?_
      refine AW_iadd dL_law_351 ?_
      refine AW_sld dL_law_352 h.1 ?_
      replace h := h.2
      refine AW_callVi (M := mL_law) (pc := 353) (As := [.int (gX g (x3 + 1).toNatClampNeg)]) (ρ1 := ρ) (st := [.int v9]) dL_law_353 mdX12_count rfl mlL_35 imX12_count seX12_count (rcv_of (q := (RX12, TX12, 40)) (Nat.le_of_ble_eq_true rfl) (okn hρ (Nat.le_of_ble_eq_true rfl)) rfl rfl) ⟨rfl, npX12_count⟩ (Nat.le_of_ble_eq_true rfl) hcle hule rfl (CALLi.mono h (fun v10 S10 _ h => ?_))
      refine AW_icmp_eq dL_law_356 rfl (iteM h (fun h => ?_) (fun h => ?_))
      · refine AW_iinc 3 (v := x3 + 6) dL_law_1276 rfl rfl (Nat.le_of_ble_eq_true rfl) rfl ?_
        refine AW_goto (tgt := 18) dL_law_1279 rfl ?_
        exact AW.sub [1, 2, 3, 0] rfl h
      · refine AW_iconst (v := 0) dL_law_359 rfl ?_
        refine AW.rhoE h.1 ?_
        replace h := h.2
        exact AW_retz dL_law_360 rfl Bz0 h
    rw [if_neg hc] at h
    have hc4 := hc
    clear hc
    by_cases hc : ((gX g x3.toNatClampNeg) &&& 63) = 5
    · rw [if_pos hc] at h
      refine AW_tswIn (tgt := 361) dL_law_33 (by rw [hc]; decide) (by rw [hc]; decide) (by rw [hc]; rfl) rfl ?_
      refine AW_aload_n 1 (n := 1) rfl dL_law_361 rfl ?_
      refine AW_aload_n 0 (n := 0) rfl dL_law_362 rfl ?_
      refine AW_iload_n 3 (n := 3) rfl dL_law_363 rfl ?_
      refine AW_iconst (v := 1) dL_law_364 rfl ?_
      refine AW_iadd dL_law_365 ?_
      refine AW_sld dL_law_366 h.1 ?_
      replace h := h.2
      refine AW_aload_n 0 (n := 0) rfl dL_law_367 rfl ?_
      refine AW_iload_n 3 (n := 3) rfl dL_law_368 rfl ?_
      refine AW_iconst (v := 2) dL_law_369 rfl ?_
      refine AW_iadd dL_law_370 ?_
      refine AW_sld dL_law_371 h.1 ?_
      replace h := h.2
      refine AW_callVi (M := mL_law) (pc := 372) (As := [.int (gX g (x3 + 1).toNatClampNeg), .int (gX g (x3 + 2).toNatClampNeg)]) (ρ1 := ρ) (st := []) dL_law_372 mdX11_cell rfl mlL_36 imX11_cell seX11_cell (rcv_of (q := (RX11, TX11, 8)) (Nat.le_of_ble_eq_true rfl) (okn hρ (Nat.le_of_ble_eq_true rfl)) rfl rfl) ⟨rfl, npX11_cell⟩ (Nat.le_of_ble_eq_true rfl) hcle hule rfl (CALLi.mono h (fun v11 S11 _ h => ?_))
      refine AW_aload_n 2 (n := 2) rfl dL_law_375 rfl ?_
      refine AW_aload_n 0 (n := 0) rfl dL_law_376 rfl ?_
      refine AW_iload_n 3 (n := 3) rfl dL_law_377 rfl ?_
      refine AW_iconst (v := 1) dL_law_378 rfl ?_
      refine AW_iadd dL_law_379 ?_
      refine AW_sld dL_law_380 h.1 ?_
      replace h := h.2
      refine AW_aload_n 0 (n := 0) rfl dL_law_381 rfl ?_
      refine AW_iload_n 3 (n := 3) rfl dL_law_382 rfl ?_
      refine AW_iconst (v := 2) dL_law_383 rfl ?_
      refine AW_iadd dL_law_384 ?_
      refine AW_sld dL_law_385 h.1 ?_
      replace h := h.2
      refine AW_callVi (M := mL_law) (pc := 386) (As := [.int (gX g (x3 + 1).toNatClampNeg), .int (gX g (x3 + 2).toNatClampNeg)]) (ρ1 := ρ) (st := [.int v11]) dL_law_386 mdX12_cell rfl mlL_40 imX12_cell seX12_cell (rcv_of (q := (RX12, TX12, 40)) (Nat.le_of_ble_eq_true rfl) (okn hρ (Nat.le_of_ble_eq_true rfl)) rfl rfl) ⟨rfl, npX12_cell⟩ (Nat.le_of_ble_eq_true rfl) hcle hule rfl (CALLi.mono h (fun v12 S12 _ h => ?_))
      refine AW_icmp_eq dL_law_389 rfl (iteM h (fun h => ?_) (fun h => ?_))
      · refine AW_iinc 3 (v := x3 + 6) dL_law_1276 rfl rfl (Nat.le_of_ble_eq_true rfl) rfl ?_
        refine AW_goto (tgt := 18) dL_law_1279 rfl ?_
        exact AW.sub [1, 2, 3, 0] rfl h
      · refine AW_iconst (v := 0) dL_law_392 rfl ?_
        refine AW.rhoE h.1 ?_
        replace h := h.2
        exact AW_retz dL_law_393 rfl Bz0 h
    rw [if_neg hc] at h
    have hc5 := hc
    clear hc
    by_cases hc : ((gX g x3.toNatClampNeg) &&& 63) = 6
    · rw [if_pos hc] at h
      refine AW_tswIn (tgt := 394) dL_law_33 (by rw [hc]; decide) (by rw [hc]; decide) (by rw [hc]; rfl) rfl ?_
      refine AW_aload_n 1 (n := 1) rfl dL_law_394 rfl ?_
      refine AW_aload_n 0 (n := 0) rfl dL_law_395 rfl ?_
      refine AW_iload_n 3 (n := 3) rfl dL_law_396 rfl ?_
      refine AW_iconst (v := 1) dL_law_397 rfl ?_
      refine AW_iadd dL_law_398 ?_
      refine AW_sld dL_law_399 h.1 ?_
      replace h := h.2
      refine AW_aload_n 0 (n := 0) rfl dL_law_400 rfl ?_
      refine AW_iload_n 3 (n := 3) rfl dL_law_401 rfl ?_
      refine AW_iconst (v := 2) dL_law_402 rfl ?_
      refine AW_iadd dL_law_403 ?_
      refine AW_sld dL_law_404 h.1 ?_
      replace h := h.2
      refine AW_callVi (M := mL_law) (pc := 405) (As := [.int (gX g (x3 + 1).toNatClampNeg), .int (gX g (x3 + 2).toNatClampNeg)]) (ρ1 := ρ) (st := []) dL_law_405 mdX11_hole rfl mlL_41 imX11_hole seX11_hole (rcv_of (q := (RX11, TX11, 8)) (Nat.le_of_ble_eq_true rfl) (okn hρ (Nat.le_of_ble_eq_true rfl)) rfl rfl) ⟨rfl, npX11_hole⟩ (Nat.le_of_ble_eq_true rfl) hcle hule rfl (CALLi.mono h (fun v13 S13 _ h => ?_))
      refine AW_aload_n 2 (n := 2) rfl dL_law_408 rfl ?_
      refine AW_aload_n 0 (n := 0) rfl dL_law_409 rfl ?_
      refine AW_iload_n 3 (n := 3) rfl dL_law_410 rfl ?_
      refine AW_iconst (v := 1) dL_law_411 rfl ?_
      refine AW_iadd dL_law_412 ?_
      refine AW_sld dL_law_413 h.1 ?_
      replace h := h.2
      refine AW_aload_n 0 (n := 0) rfl dL_law_414 rfl ?_
      refine AW_iload_n 3 (n := 3) rfl dL_law_415 rfl ?_
      refine AW_iconst (v := 2) dL_law_416 rfl ?_
      refine AW_iadd dL_law_417 ?_
      refine AW_sld dL_law_418 h.1 ?_
      replace h := h.2
      refine AW_callVi (M := mL_law) (pc := 419) (As := [.int (gX g (x3 + 1).toNatClampNeg), .int (gX g (x3 + 2).toNatClampNeg)]) (ρ1 := ρ) (st := [.int v13]) dL_law_419 mdX12_hole rfl mlL_44 imX12_hole seX12_hole (rcv_of (q := (RX12, TX12, 40)) (Nat.le_of_ble_eq_true rfl) (okn hρ (Nat.le_of_ble_eq_true rfl)) rfl rfl) ⟨rfl, npX12_hole⟩ (Nat.le_of_ble_eq_true rfl) hcle hule rfl (CALLi.mono h (fun v14 S14 _ h => ?_))
      refine AW_icmp_eq dL_law_422 rfl (iteM h (fun h => ?_) (fun h => ?_))
      · refine AW_iinc 3 (v := x3 + 6) dL_law_1276 rfl rfl (Nat.le_of_ble_eq_true rfl) rfl ?_
        refine AW_goto (tgt := 18) dL_law_1279 rfl ?_
        exact AW.sub [1, 2, 3, 0] rfl h
      · refine AW_iconst (v := 0) dL_law_425 rfl ?_
        refine AW.rhoE h.1 ?_
        replace h := h.2
        exact AW_retz dL_law_426 rfl Bz0 h
    rw [if_neg hc] at h
    have hc6 := hc
    clear hc
    by_cases hc : ((gX g x3.toNatClampNeg) &&& 63) = 7
    · rw [if_pos hc] at h
      refine AW_tswIn (tgt := 427) dL_law_33 (by rw [hc]; decide) (by rw [hc]; decide) (by rw [hc]; rfl) rfl ?_
      refine AW_aload_n 1 (n := 1) rfl dL_law_427 rfl ?_
      refine AW_aload_n 0 (n := 0) rfl dL_law_428 rfl ?_
      refine AW_iload_n 3 (n := 3) rfl dL_law_429 rfl ?_
      refine AW_iconst (v := 1) dL_law_430 rfl ?_
      refine AW_iadd dL_law_431 ?_
      refine AW_sld dL_law_432 h.1 ?_
      replace h := h.2
      refine AW_callVi (M := mL_law) (pc := 433) (As := [.int (gX g (x3 + 1).toNatClampNeg)]) (ρ1 := ρ) (st := []) dL_law_433 mdX11_row rfl mlL_45 imX11_row seX11_row (rcv_of (q := (RX11, TX11, 8)) (Nat.le_of_ble_eq_true rfl) (okn hρ (Nat.le_of_ble_eq_true rfl)) rfl rfl) ⟨rfl, npX11_row⟩ (Nat.le_of_ble_eq_true rfl) hcle hule rfl (CALLi.mono h (fun v15 S15 _ h => ?_))
      refine AW_aload_n 2 (n := 2) rfl dL_law_436 rfl ?_
      refine AW_aload_n 0 (n := 0) rfl dL_law_437 rfl ?_
      refine AW_iload_n 3 (n := 3) rfl dL_law_438 rfl ?_
      refine AW_iconst (v := 1) dL_law_439 rfl ?_
      refine AW_iadd dL_law_440 ?_
      refine AW_sld dL_law_441 h.1 ?_
      replace h := h.2
      refine AW_callVi (M := mL_law) (pc := 442) (As := [.int (gX g (x3 + 1).toNatClampNeg)]) (ρ1 := ρ) (st := [.int v15]) dL_law_442 mdX12_row rfl mlL_48 imX12_row seX12_row (rcv_of (q := (RX12, TX12, 40)) (Nat.le_of_ble_eq_true rfl) (okn hρ (Nat.le_of_ble_eq_true rfl)) rfl rfl) ⟨rfl, npX12_row⟩ (Nat.le_of_ble_eq_true rfl) hcle hule rfl (CALLi.mono h (fun v16 S16 _ h => ?_))
      refine AW_icmp_eq dL_law_445 rfl (iteM h (fun h => ?_) (fun h => ?_))
      · refine AW_iinc 3 (v := x3 + 6) dL_law_1276 rfl rfl (Nat.le_of_ble_eq_true rfl) rfl ?_
        refine AW_goto (tgt := 18) dL_law_1279 rfl ?_
        exact AW.sub [1, 2, 3, 0] rfl h
      · refine AW_iconst (v := 0) dL_law_448 rfl ?_
        refine AW.rhoE h.1 ?_
        replace h := h.2
        exact AW_retz dL_law_449 rfl Bz0 h
    rw [if_neg hc] at h
    have hc7 := hc
    clear hc
    by_cases hc : ((gX g x3.toNatClampNeg) &&& 63) = 8
    · rw [if_pos hc] at h
      refine AW_tswIn (tgt := 450) dL_law_33 (by rw [hc]; decide) (by rw [hc]; decide) (by rw [hc]; rfl) rfl ?_
      refine AW_aload_n 1 (n := 1) rfl dL_law_450 rfl ?_
      refine AW_aload_n 0 (n := 0) rfl dL_law_451 rfl ?_
      refine AW_iload_n 3 (n := 3) rfl dL_law_452 rfl ?_
      refine AW_iconst (v := 1) dL_law_453 rfl ?_
      refine AW_iadd dL_law_454 ?_
      refine AW_sld dL_law_455 h.1 ?_
      replace h := h.2
      refine AW_callVi (M := mL_law) (pc := 456) (As := [.int (gX g (x3 + 1).toNatClampNeg)]) (ρ1 := ρ) (st := []) dL_law_456 mdX11_column rfl mlL_49 imX11_column seX11_column (rcv_of (q := (RX11, TX11, 8)) (Nat.le_of_ble_eq_true rfl) (okn hρ (Nat.le_of_ble_eq_true rfl)) rfl rfl) ⟨rfl, npX11_column⟩ (Nat.le_of_ble_eq_true rfl) hcle hule rfl (CALLi.mono h (fun v17 S17 _ h => ?_))
      refine AW_aload_n 2 (n := 2) rfl dL_law_459 rfl ?_
      refine AW_aload_n 0 (n := 0) rfl dL_law_460 rfl ?_
      refine AW_iload_n 3 (n := 3) rfl dL_law_461 rfl ?_
      refine AW_iconst (v := 1) dL_law_462 rfl ?_
      refine AW_iadd dL_law_463 ?_
      refine AW_sld dL_law_464 h.1 ?_
      replace h := h.2
      refine AW_callVi (M := mL_law) (pc := 465) (As := [.int (gX g (x3 + 1).toNatClampNeg)]) (ρ1 := ρ) (st := [.int v17]) dL_law_465 mdX12_column rfl mlL_52 imX12_column seX12_column (rcv_of (q := (RX12, TX12, 40)) (Nat.le_of_ble_eq_true rfl) (okn hρ (Nat.le_of_ble_eq_true rfl)) rfl rfl) ⟨rfl, npX12_column⟩ (Nat.le_of_ble_eq_true rfl) hcle hule rfl (CALLi.mono h (fun v18 S18 _ h => ?_))
      refine AW_icmp_eq dL_law_468 rfl (iteM h (fun h => ?_) (fun h => ?_))
      · refine AW_iinc 3 (v := x3 + 6) dL_law_1276 rfl rfl (Nat.le_of_ble_eq_true rfl) rfl ?_
        refine AW_goto (tgt := 18) dL_law_1279 rfl ?_
        exact AW.sub [1, 2, 3, 0] rfl h
      · refine AW_iconst (v := 0) dL_law_471 rfl ?_
        refine AW.rhoE h.1 ?_
        replace h := h.2
        exact AW_retz dL_law_472 rfl Bz0 h
    rw [if_neg hc] at h
    have hc8 := hc
    clear hc
    by_cases hc : ((gX g x3.toNatClampNeg) &&& 63) = 9
    · rw [if_pos hc] at h
      refine AW_tswIn (tgt := 473) dL_law_33 (by rw [hc]; decide) (by rw [hc]; decide) (by rw [hc]; rfl) rfl ?_
      refine AW_aload_n 1 (n := 1) rfl dL_law_473 rfl ?_
      refine AW_callVl (M := mL_law) (pc := 474) (As := []) (ρ1 := ρ) (st := []) dL_law_474 mdX11_tables rfl mlL_53 imX11_tables seX11_tables (rcv_of (q := (RX11, TX11, 8)) (Nat.le_of_ble_eq_true rfl) (okn hρ (Nat.le_of_ble_eq_true rfl)) rfl rfl) ⟨rfl, npX11_tables⟩ (Nat.le_of_ble_eq_true rfl) hcle hule rfl (CALLl.mono h (fun v19 S19 _ h => ?_))
      refine AW_aload_n 2 (n := 2) rfl dL_law_477 rfl ?_
      refine AW_callVl (M := mL_law) (pc := 478) (As := []) (ρ1 := ρ) (st := [.long v19]) dL_law_478 mdX12_tables rfl mlL_57 imX12_tables seX12_tables (rcv_of (q := (RX12, TX12, 40)) (Nat.le_of_ble_eq_true rfl) (okn hρ (Nat.le_of_ble_eq_true rfl)) rfl rfl) ⟨rfl, npX12_tables⟩ (Nat.le_of_ble_eq_true rfl) hcle hule rfl (CALLl.mono h (fun v20 S20 _ h => ?_))
      refine AW_lc_eq dL_law_481 dL_law_482 rfl (iteM h (fun h => ?_) (fun h => ?_))
      · refine AW_iinc 3 (v := x3 + 6) dL_law_1276 rfl rfl (Nat.le_of_ble_eq_true rfl) rfl ?_
        refine AW_goto (tgt := 18) dL_law_1279 rfl ?_
        exact AW.sub [1, 2, 3, 0] rfl h
      · refine AW_iconst (v := 0) dL_law_485 rfl ?_
        refine AW.rhoE h.1 ?_
        replace h := h.2
        exact AW_retz dL_law_486 rfl Bz0 h
    rw [if_neg hc] at h
    have hc9 := hc
    clear hc
    by_cases hc : ((gX g x3.toNatClampNeg) &&& 63) = 10
    · rw [if_pos hc] at h
      refine AW_tswIn (tgt := 487) dL_law_33 (by rw [hc]; decide) (by rw [hc]; decide) (by rw [hc]; rfl) rfl ?_
      refine AW_aload_n 1 (n := 1) rfl dL_law_487 rfl ?_
      refine AW_callVl (M := mL_law) (pc := 488) (As := []) (ρ1 := ρ) (st := []) dL_law_488 mdX11_rank rfl mlL_58 imX11_rank seX11_rank (rcv_of (q := (RX11, TX11, 8)) (Nat.le_of_ble_eq_true rfl) (okn hρ (Nat.le_of_ble_eq_true rfl)) rfl rfl) ⟨rfl, npX11_rank⟩ (Nat.le_of_ble_eq_true rfl) hcle hule rfl (CALLl.mono h (fun v21 S21 _ h => ?_))
      refine AW_aload_n 2 (n := 2) rfl dL_law_491 rfl ?_
      refine AW_callVl (M := mL_law) (pc := 492) (As := []) (ρ1 := ρ) (st := [.long v21]) dL_law_492 mdX12_rank rfl mlL_61 imX12_rank seX12_rank (rcv_of (q := (RX12, TX12, 40)) (Nat.le_of_ble_eq_true rfl) (okn hρ (Nat.le_of_ble_eq_true rfl)) rfl rfl) ⟨rfl, npX12_rank⟩ (Nat.le_of_ble_eq_true rfl) hcle hule rfl (CALLl.mono h (fun v22 S22 _ h => ?_))
      refine AW_lc_eq dL_law_495 dL_law_496 rfl (iteM h (fun h => ?_) (fun h => ?_))
      · refine AW_iinc 3 (v := x3 + 6) dL_law_1276 rfl rfl (Nat.le_of_ble_eq_true rfl) rfl ?_
        refine AW_goto (tgt := 18) dL_law_1279 rfl ?_
        exact AW.sub [1, 2, 3, 0] rfl h
      · refine AW_iconst (v := 0) dL_law_499 rfl ?_
        refine AW.rhoE h.1 ?_
        replace h := h.2
        exact AW_retz dL_law_500 rfl Bz0 h
    rw [if_neg hc] at h
    have hc10 := hc
    clear hc
    by_cases hc : ((gX g x3.toNatClampNeg) &&& 63) = 11
    · rw [if_pos hc] at h
      refine AW_tswIn (tgt := 501) dL_law_33 (by rw [hc]; decide) (by rw [hc]; decide) (by rw [hc]; rfl) rfl ?_
      refine AW_aload_n 1 (n := 1) rfl dL_law_501 rfl ?_
      refine AW_aload_n 0 (n := 0) rfl dL_law_502 rfl ?_
      refine AW_iload_n 3 (n := 3) rfl dL_law_503 rfl ?_
      refine AW_iconst (v := 1) dL_law_504 rfl ?_
      refine AW_iadd dL_law_505 ?_
      refine AW_sld dL_law_506 h.1 ?_
      replace h := h.2
      refine AW_i2l dL_law_507 ?_
      refine AW_bipush (v := 32) dL_law_508 rfl ?_
      refine AW_lshl dL_law_510 ?_
      refine AW_aload_n 0 (n := 0) rfl dL_law_511 rfl ?_
      refine AW_iload_n 3 (n := 3) rfl dL_law_512 rfl ?_
      refine AW_iconst (v := 2) dL_law_513 rfl ?_
      refine AW_iadd dL_law_514 ?_
      refine AW_sld dL_law_515 h.1 ?_
      replace h := h.2
      refine AW_i2l dL_law_516 ?_
      refine AW_ldc2 (v := 4294967295) dL_law_517 kcL_62 ?_
      refine AW_land dL_law_520 ?_
      refine AW_lor dL_law_521 ?_
      refine AW_aload_n 0 (n := 0) rfl dL_law_522 rfl ?_
      refine AW_iload_n 3 (n := 3) rfl dL_law_523 rfl ?_
      refine AW_iconst (v := 3) dL_law_524 rfl ?_
      refine AW_iadd dL_law_525 ?_
      refine AW_sld dL_law_526 h.1 ?_
      replace h := h.2
      refine AW_aload_n 0 (n := 0) rfl dL_law_527 rfl ?_
      refine AW_iload_n 3 (n := 3) rfl dL_law_528 rfl ?_
      refine AW_iconst (v := 4) dL_law_529 rfl ?_
      refine AW_iadd dL_law_530 ?_
      refine AW_sld dL_law_531 h.1 ?_
      replace h := h.2
      refine AW_callVi (M := mL_law) (pc := 532) (As := [.long ((((gX g (x3 + 1).toNatClampNeg).toInt64) <<< ((32 : Int32).toInt64 &&& 63)) ||| (((gX g (x3 + 2).toNatClampNeg).toInt64) &&& 4294967295)), .int (gX g (x3 + 3).toNatClampNeg), .int (gX g (x3 + 4).toNatClampNeg)]) (ρ1 := ρ) (st := []) dL_law_532 mdX11_of rfl mlL_64 imX11_of seX11_of (rcv_of (q := (RX11, TX11, 8)) (Nat.le_of_ble_eq_true rfl) (okn hρ (Nat.le_of_ble_eq_true rfl)) rfl rfl) ⟨rfl, npX11_of⟩ (Nat.le_of_ble_eq_true rfl) hcle hule rfl (CALLi.mono h (fun v23 S23 _ h => ?_))
      refine AW_aload_n 2 (n := 2) rfl dL_law_535 rfl ?_
      refine AW_aload_n 0 (n := 0) rfl dL_law_536 rfl ?_
      refine AW_iload_n 3 (n := 3) rfl dL_law_537 rfl ?_
      refine AW_iconst (v := 1) dL_law_538 rfl ?_
      refine AW_iadd dL_law_539 ?_
      refine AW_sld dL_law_540 h.1 ?_
      replace h := h.2
      refine AW_i2l dL_law_541 ?_
      refine AW_bipush (v := 32) dL_law_542 rfl ?_
      refine AW_lshl dL_law_544 ?_
      refine AW_aload_n 0 (n := 0) rfl dL_law_545 rfl ?_
      refine AW_iload_n 3 (n := 3) rfl dL_law_546 rfl ?_
      refine AW_iconst (v := 2) dL_law_547 rfl ?_
      refine AW_iadd dL_law_548 ?_
      refine AW_sld dL_law_549 h.1 ?_
      replace h := h.2
      refine AW_i2l dL_law_550 ?_
      refine AW_ldc2 (v := 4294967295) dL_law_551 kcL_62 ?_
      refine AW_land dL_law_554 ?_
      refine AW_lor dL_law_555 ?_
      refine AW_aload_n 0 (n := 0) rfl dL_law_556 rfl ?_
      refine AW_iload_n 3 (n := 3) rfl dL_law_557 rfl ?_
      refine AW_iconst (v := 3) dL_law_558 rfl ?_
      refine AW_iadd dL_law_559 ?_
      refine AW_sld dL_law_560 h.1 ?_
      replace h := h.2
      refine AW_aload_n 0 (n := 0) rfl dL_law_561 rfl ?_
      refine AW_iload_n 3 (n := 3) rfl dL_law_562 rfl ?_
      refine AW_iconst (v := 4) dL_law_563 rfl ?_
      refine AW_iadd dL_law_564 ?_
      refine AW_sld dL_law_565 h.1 ?_
      replace h := h.2
      refine AW_callVi (M := mL_law) (pc := 566) (As := [.long ((((gX g (x3 + 1).toNatClampNeg).toInt64) <<< ((32 : Int32).toInt64 &&& 63)) ||| (((gX g (x3 + 2).toNatClampNeg).toInt64) &&& 4294967295)), .int (gX g (x3 + 3).toNatClampNeg), .int (gX g (x3 + 4).toNatClampNeg)]) (ρ1 := ρ) (st := [.int v23]) dL_law_566 mdX12_of rfl mlL_68 imX12_of seX12_of (rcv_of (q := (RX12, TX12, 40)) (Nat.le_of_ble_eq_true rfl) (okn hρ (Nat.le_of_ble_eq_true rfl)) rfl rfl) ⟨rfl, npX12_of⟩ (Nat.le_of_ble_eq_true rfl) hcle hule rfl (CALLi.mono h (fun v24 S24 _ h => ?_))
      refine AW_icmp_eq dL_law_569 rfl (iteM h (fun h => ?_) (fun h => ?_))
      · refine AW_iinc 3 (v := x3 + 6) dL_law_1276 rfl rfl (Nat.le_of_ble_eq_true rfl) rfl ?_
        refine AW_goto (tgt := 18) dL_law_1279 rfl ?_
        exact AW.sub [1, 2, 3, 0] rfl h
      · refine AW_iconst (v := 0) dL_law_572 rfl ?_
        refine AW.rhoE h.1 ?_
        replace h := h.2
        exact AW_retz dL_law_573 rfl Bz0 h
    rw [if_neg hc] at h
    have hc11 := hc
    clear hc
    by_cases hc : ((gX g x3.toNatClampNeg) &&& 63) = 12
    · rw [if_pos hc] at h
      refine AW_tswIn (tgt := 574) dL_law_33 (by rw [hc]; decide) (by rw [hc]; decide) (by rw [hc]; rfl) rfl ?_
      refine AW_aload_n 1 (n := 1) rfl dL_law_574 rfl ?_
      refine AW_aload_n 0 (n := 0) rfl dL_law_575 rfl ?_
      refine AW_iload_n 3 (n := 3) rfl dL_law_576 rfl ?_
      refine AW_iconst (v := 1) dL_law_577 rfl ?_
      refine AW_iadd dL_law_578 ?_
      refine AW_sld dL_law_579 h.1 ?_
      replace h := h.2
      refine AW_aload_n 0 (n := 0) rfl dL_law_580 rfl ?_
      refine AW_iload_n 3 (n := 3) rfl dL_law_581 rfl ?_
      refine AW_iconst (v := 2) dL_law_582 rfl ?_
      refine AW_iadd dL_law_583 ?_
      refine AW_sld dL_law_584 h.1 ?_
      replace h := h.2
      refine AW_callVi (M := mL_law) (pc := 585) (As := [.int (gX g (x3 + 1).toNatClampNeg), .int (gX g (x3 + 2).toNatClampNeg)]) (ρ1 := ρ) (st := []) dL_law_585 mdX11_least rfl mlL_69 imX11_least seX11_least (rcv_of (q := (RX11, TX11, 8)) (Nat.le_of_ble_eq_true rfl) (okn hρ (Nat.le_of_ble_eq_true rfl)) rfl rfl) ⟨rfl, npX11_least⟩ (Nat.le_of_ble_eq_true rfl) hcle hule rfl (CALLi.mono h (fun v25 S25 _ h => ?_))
      refine AW_aload_n 2 (n := 2) rfl dL_law_588 rfl ?_
      refine AW_aload_n 0 (n := 0) rfl dL_law_589 rfl ?_
      refine AW_iload_n 3 (n := 3) rfl dL_law_590 rfl ?_
      refine AW_iconst (v := 1) dL_law_591 rfl ?_
      refine AW_iadd dL_law_592 ?_
      refine AW_sld dL_law_593 h.1 ?_
      replace h := h.2
      refine AW_aload_n 0 (n := 0) rfl dL_law_594 rfl ?_
      refine AW_iload_n 3 (n := 3) rfl dL_law_595 rfl ?_
      refine AW_iconst (v := 2) dL_law_596 rfl ?_
      refine AW_iadd dL_law_597 ?_
      refine AW_sld dL_law_598 h.1 ?_
      replace h := h.2
      refine AW_callVi (M := mL_law) (pc := 599) (As := [.int (gX g (x3 + 1).toNatClampNeg), .int (gX g (x3 + 2).toNatClampNeg)]) (ρ1 := ρ) (st := [.int v25]) dL_law_599 mdX12_least rfl mlL_72 imX12_least seX12_least (rcv_of (q := (RX12, TX12, 40)) (Nat.le_of_ble_eq_true rfl) (okn hρ (Nat.le_of_ble_eq_true rfl)) rfl rfl) ⟨rfl, npX12_least⟩ (Nat.le_of_ble_eq_true rfl) hcle hule rfl (CALLi.mono h (fun v26 S26 _ h => ?_))
      refine AW_icmp_eq dL_law_602 rfl (iteM h (fun h => ?_) (fun h => ?_))
      · refine AW_iinc 3 (v := x3 + 6) dL_law_1276 rfl rfl (Nat.le_of_ble_eq_true rfl) rfl ?_
        refine AW_goto (tgt := 18) dL_law_1279 rfl ?_
        exact AW.sub [1, 2, 3, 0] rfl h
      · refine AW_iconst (v := 0) dL_law_605 rfl ?_
        refine AW.rhoE h.1 ?_
        replace h := h.2
        exact AW_retz dL_law_606 rfl Bz0 h
    rw [if_neg hc] at h
    have hc12 := hc
    clear hc
    by_cases hc : ((gX g x3.toNatClampNeg) &&& 63) = 13
    · rw [if_pos hc] at h
      refine AW_tswIn (tgt := 607) dL_law_33 (by rw [hc]; decide) (by rw [hc]; decide) (by rw [hc]; rfl) rfl ?_
      refine AW_aload_n 1 (n := 1) rfl dL_law_607 rfl ?_
      refine AW_aload_n 0 (n := 0) rfl dL_law_608 rfl ?_
      refine AW_iload_n 3 (n := 3) rfl dL_law_609 rfl ?_
      refine AW_iconst (v := 1) dL_law_610 rfl ?_
      refine AW_iadd dL_law_611 ?_
      refine AW_sld dL_law_612 h.1 ?_
      replace h := h.2
      refine AW_aload_n 0 (n := 0) rfl dL_law_613 rfl ?_
      refine AW_iload_n 3 (n := 3) rfl dL_law_614 rfl ?_
      refine AW_iconst (v := 2) dL_law_615 rfl ?_
      refine AW_iadd dL_law_616 ?_
      refine AW_sld dL_law_617 h.1 ?_
      replace h := h.2
      refine AW_callVi (M := mL_law) (pc := 618) (As := [.int (gX g (x3 + 1).toNatClampNeg), .int (gX g (x3 + 2).toNatClampNeg)]) (ρ1 := ρ) (st := []) dL_law_618 mdX11_most rfl mlL_73 imX11_most seX11_most (rcv_of (q := (RX11, TX11, 8)) (Nat.le_of_ble_eq_true rfl) (okn hρ (Nat.le_of_ble_eq_true rfl)) rfl rfl) ⟨rfl, npX11_most⟩ (Nat.le_of_ble_eq_true rfl) hcle hule rfl (CALLi.mono h (fun v27 S27 _ h => ?_))
      refine AW_aload_n 2 (n := 2) rfl dL_law_621 rfl ?_
      refine AW_aload_n 0 (n := 0) rfl dL_law_622 rfl ?_
      refine AW_iload_n 3 (n := 3) rfl dL_law_623 rfl ?_
      refine AW_iconst (v := 1) dL_law_624 rfl ?_
      refine AW_iadd dL_law_625 ?_
      refine AW_sld dL_law_626 h.1 ?_
      replace h := h.2
      refine AW_aload_n 0 (n := 0) rfl dL_law_627 rfl ?_
      refine AW_iload_n 3 (n := 3) rfl dL_law_628 rfl ?_
      refine AW_iconst (v := 2) dL_law_629 rfl ?_
      refine AW_iadd dL_law_630 ?_
      refine AW_sld dL_law_631 h.1 ?_
      replace h := h.2
      refine AW_callVi (M := mL_law) (pc := 632) (As := [.int (gX g (x3 + 1).toNatClampNeg), .int (gX g (x3 + 2).toNatClampNeg)]) (ρ1 := ρ) (st := [.int v27]) dL_law_632 mdX12_most rfl mlL_76 imX12_most seX12_most (rcv_of (q := (RX12, TX12, 40)) (Nat.le_of_ble_eq_true rfl) (okn hρ (Nat.le_of_ble_eq_true rfl)) rfl rfl) ⟨rfl, npX12_most⟩ (Nat.le_of_ble_eq_true rfl) hcle hule rfl (CALLi.mono h (fun v28 S28 _ h => ?_))
      refine AW_icmp_eq dL_law_635 rfl (iteM h (fun h => ?_) (fun h => ?_))
      · refine AW_iinc 3 (v := x3 + 6) dL_law_1276 rfl rfl (Nat.le_of_ble_eq_true rfl) rfl ?_
        refine AW_goto (tgt := 18) dL_law_1279 rfl ?_
        exact AW.sub [1, 2, 3, 0] rfl h
      · refine AW_iconst (v := 0) dL_law_638 rfl ?_
        refine AW.rhoE h.1 ?_
        replace h := h.2
        exact AW_retz dL_law_639 rfl Bz0 h
    rw [if_neg hc] at h
    have hc13 := hc
    clear hc
    by_cases hc : ((gX g x3.toNatClampNeg) &&& 63) = 14
    · rw [if_pos hc] at h
      refine AW_tswIn (tgt := 640) dL_law_33 (by rw [hc]; decide) (by rw [hc]; decide) (by rw [hc]; rfl) rfl ?_
      refine AW_aload_n 1 (n := 1) rfl dL_law_640 rfl ?_
      refine AW_callVi (M := mL_law) (pc := 641) (As := []) (ρ1 := ρ) (st := []) dL_law_641 mdX11_fixed rfl mlL_77 imX11_fixed seX11_fixed (rcv_of (q := (RX11, TX11, 8)) (Nat.le_of_ble_eq_true rfl) (okn hρ (Nat.le_of_ble_eq_true rfl)) rfl rfl) ⟨rfl, npX11_fixed⟩ (Nat.le_of_ble_eq_true rfl) hcle hule rfl (CALLi.mono h (fun v29 S29 _ h => ?_))
      refine AW_aload_n 2 (n := 2) rfl dL_law_644 rfl ?_
      refine AW_callVi (M := mL_law) (pc := 645) (As := []) (ρ1 := ρ) (st := [.int v29]) dL_law_645 mdX12_fixed rfl mlL_80 imX12_fixed seX12_fixed (rcv_of (q := (RX12, TX12, 40)) (Nat.le_of_ble_eq_true rfl) (okn hρ (Nat.le_of_ble_eq_true rfl)) rfl rfl) ⟨rfl, npX12_fixed⟩ (Nat.le_of_ble_eq_true rfl) hcle hule rfl (CALLi.mono h (fun v30 S30 _ h => ?_))
      refine AW_icmp_eq dL_law_648 rfl (iteM h (fun h => ?_) (fun h => ?_))
      · refine AW_iinc 3 (v := x3 + 6) dL_law_1276 rfl rfl (Nat.le_of_ble_eq_true rfl) rfl ?_
        refine AW_goto (tgt := 18) dL_law_1279 rfl ?_
        exact AW.sub [1, 2, 3, 0] rfl h
      · refine AW_iconst (v := 0) dL_law_651 rfl ?_
        refine AW.rhoE h.1 ?_
        replace h := h.2
        exact AW_retz dL_law_652 rfl Bz0 h
    rw [if_neg hc] at h
    have hc14 := hc
    clear hc
    by_cases hc : ((gX g x3.toNatClampNeg) &&& 63) = 15
    · rw [if_pos hc] at h
      refine AW_tswIn (tgt := 653) dL_law_33 (by rw [hc]; decide) (by rw [hc]; decide) (by rw [hc]; rfl) rfl ?_
      refine AW_aload_n 1 (n := 1) rfl dL_law_653 rfl ?_
      refine AW_aload_n 0 (n := 0) rfl dL_law_654 rfl ?_
      refine AW_iload_n 3 (n := 3) rfl dL_law_655 rfl ?_
      refine AW_iconst (v := 1) dL_law_656 rfl ?_
      refine AW_iadd dL_law_657 ?_
      refine AW_sld dL_law_658 h.1 ?_
      replace h := h.2
      refine AW_aload_n 0 (n := 0) rfl dL_law_659 rfl ?_
      refine AW_iload_n 3 (n := 3) rfl dL_law_660 rfl ?_
      refine AW_iconst (v := 2) dL_law_661 rfl ?_
      refine AW_iadd dL_law_662 ?_
      refine AW_sld dL_law_663 h.1 ?_
      replace h := h.2
      refine AW_aload_n 0 (n := 0) rfl dL_law_664 rfl ?_
      refine AW_iload_n 3 (n := 3) rfl dL_law_665 rfl ?_
      refine AW_iconst (v := 3) dL_law_666 rfl ?_
      refine AW_iadd dL_law_667 ?_
      refine AW_sld dL_law_668 h.1 ?_
      replace h := h.2
      refine AW_callVl (M := mL_law) (pc := 669) (As := [.int (gX g (x3 + 1).toNatClampNeg), .int (gX g (x3 + 2).toNatClampNeg), .int (gX g (x3 + 3).toNatClampNeg)]) (ρ1 := ρ) (st := []) dL_law_669 mdX11_having rfl mlL_81 imX11_having seX11_having (rcv_of (q := (RX11, TX11, 8)) (Nat.le_of_ble_eq_true rfl) (okn hρ (Nat.le_of_ble_eq_true rfl)) rfl rfl) ⟨rfl, npX11_having⟩ (Nat.le_of_ble_eq_true rfl) hcle hule rfl (CALLl.mono h (fun v31 S31 _ h => ?_))
      refine AW_aload_n 2 (n := 2) rfl dL_law_672 rfl ?_
      refine AW_aload_n 0 (n := 0) rfl dL_law_673 rfl ?_
      refine AW_iload_n 3 (n := 3) rfl dL_law_674 rfl ?_
      refine AW_iconst (v := 1) dL_law_675 rfl ?_
      refine AW_iadd dL_law_676 ?_
      refine AW_sld dL_law_677 h.1 ?_
      replace h := h.2
      refine AW_aload_n 0 (n := 0) rfl dL_law_678 rfl ?_
      refine AW_iload_n 3 (n := 3) rfl dL_law_679 rfl ?_
      refine AW_iconst (v := 2) dL_law_680 rfl ?_
      refine AW_iadd dL_law_681 ?_
      refine AW_sld dL_law_682 h.1 ?_
      replace h := h.2
      refine AW_aload_n 0 (n := 0) rfl dL_law_683 rfl ?_
      refine AW_iload_n 3 (n := 3) rfl dL_law_684 rfl ?_
      refine AW_iconst (v := 3) dL_law_685 rfl ?_
      refine AW_iadd dL_law_686 ?_
      refine AW_sld dL_law_687 h.1 ?_
      replace h := h.2
      refine AW_callVl (M := mL_law) (pc := 688) (As := [.int (gX g (x3 + 1).toNatClampNeg), .int (gX g (x3 + 2).toNatClampNeg), .int (gX g (x3 + 3).toNatClampNeg)]) (ρ1 := ρ) (st := [.long v31]) dL_law_688 mdX12_having rfl mlL_85 imX12_having seX12_having (rcv_of (q := (RX12, TX12, 40)) (Nat.le_of_ble_eq_true rfl) (okn hρ (Nat.le_of_ble_eq_true rfl)) rfl rfl) ⟨rfl, npX12_having⟩ (Nat.le_of_ble_eq_true rfl) hcle hule rfl (CALLl.mono h (fun v32 S32 _ h => ?_))
      refine AW_lc_eq dL_law_691 dL_law_692 rfl (iteM h (fun h => ?_) (fun h => ?_))
      · refine AW_iinc 3 (v := x3 + 6) dL_law_1276 rfl rfl (Nat.le_of_ble_eq_true rfl) rfl ?_
        refine AW_goto (tgt := 18) dL_law_1279 rfl ?_
        exact AW.sub [1, 2, 3, 0] rfl h
      · refine AW_iconst (v := 0) dL_law_695 rfl ?_
        refine AW.rhoE h.1 ?_
        replace h := h.2
        exact AW_retz dL_law_696 rfl Bz0 h
    rw [if_neg hc] at h
    have hc15 := hc
    clear hc
    by_cases hc : ((gX g x3.toNatClampNeg) &&& 63) = 16
    · rw [if_pos hc] at h
      refine AW_tswIn (tgt := 697) dL_law_33 (by rw [hc]; decide) (by rw [hc]; decide) (by rw [hc]; rfl) rfl ?_
      refine AW_aload_n 1 (n := 1) rfl dL_law_697 rfl ?_
      refine AW_aload_n 0 (n := 0) rfl dL_law_698 rfl ?_
      refine AW_iload_n 3 (n := 3) rfl dL_law_699 rfl ?_
      refine AW_iconst (v := 1) dL_law_700 rfl ?_
      refine AW_iadd dL_law_701 ?_
      refine AW_sld dL_law_702 h.1 ?_
      replace h := h.2
      refine AW_aload_n 0 (n := 0) rfl dL_law_703 rfl ?_
      refine AW_iload_n 3 (n := 3) rfl dL_law_704 rfl ?_
      refine AW_iconst (v := 2) dL_law_705 rfl ?_
      refine AW_iadd dL_law_706 ?_
      refine AW_sld dL_law_707 h.1 ?_
      replace h := h.2
      refine AW_aload_n 0 (n := 0) rfl dL_law_708 rfl ?_
      refine AW_iload_n 3 (n := 3) rfl dL_law_709 rfl ?_
      refine AW_iconst (v := 3) dL_law_710 rfl ?_
      refine AW_iadd dL_law_711 ?_
      refine AW_sld dL_law_712 h.1 ?_
      replace h := h.2
      refine AW_callVl (M := mL_law) (pc := 713) (As := [.int (gX g (x3 + 1).toNatClampNeg), .int (gX g (x3 + 2).toNatClampNeg), .int (gX g (x3 + 3).toNatClampNeg)]) (ρ1 := ρ) (st := []) dL_law_713 mdX11_mean rfl mlL_86 imX11_mean seX11_mean (rcv_of (q := (RX11, TX11, 8)) (Nat.le_of_ble_eq_true rfl) (okn hρ (Nat.le_of_ble_eq_true rfl)) rfl rfl) ⟨rfl, npX11_mean⟩ (Nat.le_of_ble_eq_true rfl) hcle hule rfl (CALLl.mono h (fun v33 S33 _ h => ?_))
      refine AW_aload_n 2 (n := 2) rfl dL_law_716 rfl ?_
      refine AW_aload_n 0 (n := 0) rfl dL_law_717 rfl ?_
      refine AW_iload_n 3 (n := 3) rfl dL_law_718 rfl ?_
      refine AW_iconst (v := 1) dL_law_719 rfl ?_
      refine AW_iadd dL_law_720 ?_
      refine AW_sld dL_law_721 h.1 ?_
      replace h := h.2
      refine AW_aload_n 0 (n := 0) rfl dL_law_722 rfl ?_
      refine AW_iload_n 3 (n := 3) rfl dL_law_723 rfl ?_
      refine AW_iconst (v := 2) dL_law_724 rfl ?_
      refine AW_iadd dL_law_725 ?_
      refine AW_sld dL_law_726 h.1 ?_
      replace h := h.2
      refine AW_aload_n 0 (n := 0) rfl dL_law_727 rfl ?_
      refine AW_iload_n 3 (n := 3) rfl dL_law_728 rfl ?_
      refine AW_iconst (v := 3) dL_law_729 rfl ?_
      refine AW_iadd dL_law_730 ?_
      refine AW_sld dL_law_731 h.1 ?_
      replace h := h.2
      refine AW_callVl (M := mL_law) (pc := 732) (As := [.int (gX g (x3 + 1).toNatClampNeg), .int (gX g (x3 + 2).toNatClampNeg), .int (gX g (x3 + 3).toNatClampNeg)]) (ρ1 := ρ) (st := [.long v33]) dL_law_732 mdX12_mean rfl mlL_89 imX12_mean seX12_mean (rcv_of (q := (RX12, TX12, 40)) (Nat.le_of_ble_eq_true rfl) (okn hρ (Nat.le_of_ble_eq_true rfl)) rfl rfl) ⟨rfl, npX12_mean⟩ (Nat.le_of_ble_eq_true rfl) hcle hule rfl (CALLl.mono h (fun v34 S34 _ h => ?_))
      refine AW_lc_eq dL_law_735 dL_law_736 rfl (iteM h (fun h => ?_) (fun h => ?_))
      · refine AW_iinc 3 (v := x3 + 6) dL_law_1276 rfl rfl (Nat.le_of_ble_eq_true rfl) rfl ?_
        refine AW_goto (tgt := 18) dL_law_1279 rfl ?_
        exact AW.sub [1, 2, 3, 0] rfl h
      · refine AW_iconst (v := 0) dL_law_739 rfl ?_
        refine AW.rhoE h.1 ?_
        replace h := h.2
        exact AW_retz dL_law_740 rfl Bz0 h
    rw [if_neg hc] at h
    have hc16 := hc
    clear hc
    by_cases hc : ((gX g x3.toNatClampNeg) &&& 63) = 17
    · rw [if_pos hc] at h
      refine AW_tswIn (tgt := 741) dL_law_33 (by rw [hc]; decide) (by rw [hc]; decide) (by rw [hc]; rfl) rfl ?_
      refine AW_aload_n 1 (n := 1) rfl dL_law_741 rfl ?_
      refine AW_callVl (M := mL_law) (pc := 742) (As := []) (ρ1 := ρ) (st := []) dL_law_742 mdX11_weight rfl mlL_90 imX11_weight seX11_weight (rcv_of (q := (RX11, TX11, 8)) (Nat.le_of_ble_eq_true rfl) (okn hρ (Nat.le_of_ble_eq_true rfl)) rfl rfl) ⟨rfl, npX11_weight⟩ (Nat.le_of_ble_eq_true rfl) hcle hule rfl (CALLl.mono h (fun v35 S35 _ h => ?_))
      refine AW_aload_n 2 (n := 2) rfl dL_law_745 rfl ?_
      refine AW_callVl (M := mL_law) (pc := 746) (As := []) (ρ1 := ρ) (st := [.long v35]) dL_law_746 mdX12_weight rfl mlL_93 imX12_weight seX12_weight (rcv_of (q := (RX12, TX12, 40)) (Nat.le_of_ble_eq_true rfl) (okn hρ (Nat.le_of_ble_eq_true rfl)) rfl rfl) ⟨rfl, npX12_weight⟩ (Nat.le_of_ble_eq_true rfl) hcle hule rfl (CALLl.mono h (fun v36 S36 _ h => ?_))
      refine AW_lc_eq dL_law_749 dL_law_750 rfl (iteM h (fun h => ?_) (fun h => ?_))
      · refine AW_iinc 3 (v := x3 + 6) dL_law_1276 rfl rfl (Nat.le_of_ble_eq_true rfl) rfl ?_
        refine AW_goto (tgt := 18) dL_law_1279 rfl ?_
        exact AW.sub [1, 2, 3, 0] rfl h
      · refine AW_iconst (v := 0) dL_law_753 rfl ?_
        refine AW.rhoE h.1 ?_
        replace h := h.2
        exact AW_retz dL_law_754 rfl Bz0 h
    rw [if_neg hc] at h
    have hc17 := hc
    clear hc
    by_cases hc : ((gX g x3.toNatClampNeg) &&& 63) = 18
    · rw [if_pos hc] at h
      refine AW_tswIn (tgt := 755) dL_law_33 (by rw [hc]; decide) (by rw [hc]; decide) (by rw [hc]; rfl) rfl ?_
      refine AW_aload_n 1 (n := 1) rfl dL_law_755 rfl ?_
      refine AW_callVl (M := mL_law) (pc := 756) (As := []) (ρ1 := ρ) (st := []) dL_law_756 mdX11_weights rfl mlL_94 imX11_weights seX11_weights (rcv_of (q := (RX11, TX11, 8)) (Nat.le_of_ble_eq_true rfl) (okn hρ (Nat.le_of_ble_eq_true rfl)) rfl rfl) ⟨rfl, npX11_weights⟩ (Nat.le_of_ble_eq_true rfl) hcle hule rfl (CALLl.mono h (fun v37 S37 _ h => ?_))
      refine AW_aload_n 2 (n := 2) rfl dL_law_759 rfl ?_
      refine AW_callVl (M := mL_law) (pc := 760) (As := []) (ρ1 := ρ) (st := [.long v37]) dL_law_760 mdX12_weights rfl mlL_97 imX12_weights seX12_weights (rcv_of (q := (RX12, TX12, 40)) (Nat.le_of_ble_eq_true rfl) (okn hρ (Nat.le_of_ble_eq_true rfl)) rfl rfl) ⟨rfl, npX12_weights⟩ (Nat.le_of_ble_eq_true rfl) hcle hule rfl (CALLl.mono h (fun v38 S38 _ h => ?_))
      refine AW_lc_eq dL_law_763 dL_law_764 rfl (iteM h (fun h => ?_) (fun h => ?_))
      · refine AW_iinc 3 (v := x3 + 6) dL_law_1276 rfl rfl (Nat.le_of_ble_eq_true rfl) rfl ?_
        refine AW_goto (tgt := 18) dL_law_1279 rfl ?_
        exact AW.sub [1, 2, 3, 0] rfl h
      · refine AW_iconst (v := 0) dL_law_767 rfl ?_
        refine AW.rhoE h.1 ?_
        replace h := h.2
        exact AW_retz dL_law_768 rfl Bz0 h
    rw [if_neg hc] at h
    have hc18 := hc
    clear hc
    by_cases hc : ((gX g x3.toNatClampNeg) &&& 63) = 19
    · rw [if_pos hc] at h
      refine AW_tswIn (tgt := 769) dL_law_33 (by rw [hc]; decide) (by rw [hc]; decide) (by rw [hc]; rfl) rfl ?_
      refine AW_aload_n 1 (n := 1) rfl dL_law_769 rfl ?_
      refine AW_callVl (M := mL_law) (pc := 770) (As := []) (ρ1 := ρ) (st := []) dL_law_770 mdX11_heaviest rfl mlL_98 imX11_heaviest seX11_heaviest (rcv_of (q := (RX11, TX11, 8)) (Nat.le_of_ble_eq_true rfl) (okn hρ (Nat.le_of_ble_eq_true rfl)) rfl rfl) ⟨rfl, npX11_heaviest⟩ (Nat.le_of_ble_eq_true rfl) hcle hule rfl (CALLl.mono h (fun v39 S39 _ h => ?_))
      refine AW_aload_n 2 (n := 2) rfl dL_law_773 rfl ?_
      refine AW_callVl (M := mL_law) (pc := 774) (As := []) (ρ1 := ρ) (st := [.long v39]) dL_law_774 mdX12_heaviest rfl mlL_101 imX12_heaviest seX12_heaviest (rcv_of (q := (RX12, TX12, 40)) (Nat.le_of_ble_eq_true rfl) (okn hρ (Nat.le_of_ble_eq_true rfl)) rfl rfl) ⟨rfl, npX12_heaviest⟩ (Nat.le_of_ble_eq_true rfl) hcle hule rfl (CALLl.mono h (fun v40 S40 _ h => ?_))
      refine AW_lc_eq dL_law_777 dL_law_778 rfl (iteM h (fun h => ?_) (fun h => ?_))
      · refine AW_iinc 3 (v := x3 + 6) dL_law_1276 rfl rfl (Nat.le_of_ble_eq_true rfl) rfl ?_
        refine AW_goto (tgt := 18) dL_law_1279 rfl ?_
        exact AW.sub [1, 2, 3, 0] rfl h
      · refine AW_iconst (v := 0) dL_law_781 rfl ?_
        refine AW.rhoE h.1 ?_
        replace h := h.2
        exact AW_retz dL_law_782 rfl Bz0 h
    rw [if_neg hc] at h
    have hc19 := hc
    clear hc
    by_cases hc : ((gX g x3.toNatClampNeg) &&& 63) = 20
    · rw [if_pos hc] at h
      refine AW_tswIn (tgt := 783) dL_law_33 (by rw [hc]; decide) (by rw [hc]; decide) (by rw [hc]; rfl) rfl ?_
      refine AW_aload_n 1 (n := 1) rfl dL_law_783 rfl ?_
      refine AW_callVl (M := mL_law) (pc := 784) (As := []) (ρ1 := ρ) (st := []) dL_law_784 mdX11_lightest rfl mlL_102 imX11_lightest seX11_lightest (rcv_of (q := (RX11, TX11, 8)) (Nat.le_of_ble_eq_true rfl) (okn hρ (Nat.le_of_ble_eq_true rfl)) rfl rfl) ⟨rfl, npX11_lightest⟩ (Nat.le_of_ble_eq_true rfl) hcle hule rfl (CALLl.mono h (fun v41 S41 _ h => ?_))
      refine AW_aload_n 2 (n := 2) rfl dL_law_787 rfl ?_
      refine AW_callVl (M := mL_law) (pc := 788) (As := []) (ρ1 := ρ) (st := [.long v41]) dL_law_788 mdX12_lightest rfl mlL_105 imX12_lightest seX12_lightest (rcv_of (q := (RX12, TX12, 40)) (Nat.le_of_ble_eq_true rfl) (okn hρ (Nat.le_of_ble_eq_true rfl)) rfl rfl) ⟨rfl, npX12_lightest⟩ (Nat.le_of_ble_eq_true rfl) hcle hule rfl (CALLl.mono h (fun v42 S42 _ h => ?_))
      refine AW_lc_eq dL_law_791 dL_law_792 rfl (iteM h (fun h => ?_) (fun h => ?_))
      · refine AW_iinc 3 (v := x3 + 6) dL_law_1276 rfl rfl (Nat.le_of_ble_eq_true rfl) rfl ?_
        refine AW_goto (tgt := 18) dL_law_1279 rfl ?_
        exact AW.sub [1, 2, 3, 0] rfl h
      · refine AW_iconst (v := 0) dL_law_795 rfl ?_
        refine AW.rhoE h.1 ?_
        replace h := h.2
        exact AW_retz dL_law_796 rfl Bz0 h
    rw [if_neg hc] at h
    have hc20 := hc
    clear hc
    by_cases hc : ((gX g x3.toNatClampNeg) &&& 63) = 21
    · rw [if_pos hc] at h
      refine AW_tswIn (tgt := 797) dL_law_33 (by rw [hc]; decide) (by rw [hc]; decide) (by rw [hc]; rfl) rfl ?_
      refine AW_aload_n 1 (n := 1) rfl dL_law_797 rfl ?_
      refine AW_aload_n 0 (n := 0) rfl dL_law_798 rfl ?_
      refine AW_iload_n 3 (n := 3) rfl dL_law_799 rfl ?_
      refine AW_iconst (v := 1) dL_law_800 rfl ?_
      refine AW_iadd dL_law_801 ?_
      refine AW_sld dL_law_802 h.1 ?_
      replace h := h.2
      refine AW_callVl (M := mL_law) (pc := 803) (As := [.int (gX g (x3 + 1).toNatClampNeg)]) (ρ1 := ρ) (st := []) dL_law_803 mdX11_statistic rfl mlL_106 imX11_statistic seX11_statistic (rcv_of (q := (RX11, TX11, 8)) (Nat.le_of_ble_eq_true rfl) (okn hρ (Nat.le_of_ble_eq_true rfl)) rfl rfl) ⟨rfl, npX11_statistic⟩ (Nat.le_of_ble_eq_true rfl) hcle hule rfl (CALLl.mono h (fun v43 S43 _ h => ?_))
      refine AW_aload_n 2 (n := 2) rfl dL_law_806 rfl ?_
      refine AW_aload_n 0 (n := 0) rfl dL_law_807 rfl ?_
      refine AW_iload_n 3 (n := 3) rfl dL_law_808 rfl ?_
      refine AW_iconst (v := 1) dL_law_809 rfl ?_
      refine AW_iadd dL_law_810 ?_
      refine AW_sld dL_law_811 h.1 ?_
      replace h := h.2
      refine AW_callVl (M := mL_law) (pc := 812) (As := [.int (gX g (x3 + 1).toNatClampNeg)]) (ρ1 := ρ) (st := [.long v43]) dL_law_812 mdX12_statistic rfl mlL_110 imX12_statistic seX12_statistic (rcv_of (q := (RX12, TX12, 40)) (Nat.le_of_ble_eq_true rfl) (okn hρ (Nat.le_of_ble_eq_true rfl)) rfl rfl) ⟨rfl, npX12_statistic⟩ (Nat.le_of_ble_eq_true rfl) hcle hule rfl (CALLl.mono h (fun v44 S44 _ h => ?_))
      refine AW_lc_eq dL_law_815 dL_law_816 rfl (iteM h (fun h => ?_) (fun h => ?_))
      · refine AW_iinc 3 (v := x3 + 6) dL_law_1276 rfl rfl (Nat.le_of_ble_eq_true rfl) rfl ?_
        refine AW_goto (tgt := 18) dL_law_1279 rfl ?_
        exact AW.sub [1, 2, 3, 0] rfl h
      · refine AW_iconst (v := 0) dL_law_819 rfl ?_
        refine AW.rhoE h.1 ?_
        replace h := h.2
        exact AW_retz dL_law_820 rfl Bz0 h
    rw [if_neg hc] at h
    have hc21 := hc
    clear hc
    by_cases hc : ((gX g x3.toNatClampNeg) &&& 63) = 22
    · rw [if_pos hc] at h
      refine AW_tswIn (tgt := 821) dL_law_33 (by rw [hc]; decide) (by rw [hc]; decide) (by rw [hc]; rfl) rfl ?_
      refine AW_aload_n 1 (n := 1) rfl dL_law_821 rfl ?_
      refine AW_aload_n 0 (n := 0) rfl dL_law_822 rfl ?_
      refine AW_iload_n 3 (n := 3) rfl dL_law_823 rfl ?_
      refine AW_iconst (v := 1) dL_law_824 rfl ?_
      refine AW_iadd dL_law_825 ?_
      refine AW_sld dL_law_826 h.1 ?_
      replace h := h.2
      refine AW_callVl (M := mL_law) (pc := 827) (As := [.int (gX g (x3 + 1).toNatClampNeg)]) (ρ1 := ρ) (st := []) dL_law_827 mdX11_extreme rfl mlL_111 imX11_extreme seX11_extreme (rcv_of (q := (RX11, TX11, 8)) (Nat.le_of_ble_eq_true rfl) (okn hρ (Nat.le_of_ble_eq_true rfl)) rfl rfl) ⟨rfl, npX11_extreme⟩ (Nat.le_of_ble_eq_true rfl) hcle hule rfl (CALLl.mono h (fun v45 S45 _ h => ?_))
      refine AW_aload_n 2 (n := 2) rfl dL_law_830 rfl ?_
      refine AW_aload_n 0 (n := 0) rfl dL_law_831 rfl ?_
      refine AW_iload_n 3 (n := 3) rfl dL_law_832 rfl ?_
      refine AW_iconst (v := 1) dL_law_833 rfl ?_
      refine AW_iadd dL_law_834 ?_
      refine AW_sld dL_law_835 h.1 ?_
      replace h := h.2
      refine AW_callVl (M := mL_law) (pc := 836) (As := [.int (gX g (x3 + 1).toNatClampNeg)]) (ρ1 := ρ) (st := [.long v45]) dL_law_836 mdX12_extreme rfl mlL_114 imX12_extreme seX12_extreme (rcv_of (q := (RX12, TX12, 40)) (Nat.le_of_ble_eq_true rfl) (okn hρ (Nat.le_of_ble_eq_true rfl)) rfl rfl) ⟨rfl, npX12_extreme⟩ (Nat.le_of_ble_eq_true rfl) hcle hule rfl (CALLl.mono h (fun v46 S46 _ h => ?_))
      refine AW_lc_eq dL_law_839 dL_law_840 rfl (iteM h (fun h => ?_) (fun h => ?_))
      · refine AW_iinc 3 (v := x3 + 6) dL_law_1276 rfl rfl (Nat.le_of_ble_eq_true rfl) rfl ?_
        refine AW_goto (tgt := 18) dL_law_1279 rfl ?_
        exact AW.sub [1, 2, 3, 0] rfl h
      · refine AW_iconst (v := 0) dL_law_843 rfl ?_
        refine AW.rhoE h.1 ?_
        replace h := h.2
        exact AW_retz dL_law_844 rfl Bz0 h
    rw [if_neg hc] at h
    have hc22 := hc
    clear hc
    by_cases hc : ((gX g x3.toNatClampNeg) &&& 63) = 23
    · rw [if_pos hc] at h
      refine AW_tswIn (tgt := 845) dL_law_33 (by rw [hc]; decide) (by rw [hc]; decide) (by rw [hc]; rfl) rfl ?_
      refine AW_aload_n 1 (n := 1) rfl dL_law_845 rfl ?_
      refine AW_aload_n 0 (n := 0) rfl dL_law_846 rfl ?_
      refine AW_iload_n 3 (n := 3) rfl dL_law_847 rfl ?_
      refine AW_iconst (v := 1) dL_law_848 rfl ?_
      refine AW_iadd dL_law_849 ?_
      refine AW_sld dL_law_850 h.1 ?_
      replace h := h.2
      refine AW_aload_n 0 (n := 0) rfl dL_law_851 rfl ?_
      refine AW_iload_n 3 (n := 3) rfl dL_law_852 rfl ?_
      refine AW_iconst (v := 2) dL_law_853 rfl ?_
      refine AW_iadd dL_law_854 ?_
      refine AW_sld dL_law_855 h.1 ?_
      replace h := h.2
      refine AW_callVl (M := mL_law) (pc := 856) (As := [.int (gX g (x3 + 1).toNatClampNeg), .int (gX g (x3 + 2).toNatClampNeg)]) (ρ1 := ρ) (st := []) dL_law_856 mdX11_share rfl mlL_115 imX11_share seX11_share (rcv_of (q := (RX11, TX11, 8)) (Nat.le_of_ble_eq_true rfl) (okn hρ (Nat.le_of_ble_eq_true rfl)) rfl rfl) ⟨rfl, npX11_share⟩ (Nat.le_of_ble_eq_true rfl) hcle hule rfl (CALLl.mono h (fun v47 S47 _ h => ?_))
      refine AW_aload_n 2 (n := 2) rfl dL_law_859 rfl ?_
      refine AW_aload_n 0 (n := 0) rfl dL_law_860 rfl ?_
      refine AW_iload_n 3 (n := 3) rfl dL_law_861 rfl ?_
      refine AW_iconst (v := 1) dL_law_862 rfl ?_
      refine AW_iadd dL_law_863 ?_
      refine AW_sld dL_law_864 h.1 ?_
      replace h := h.2
      refine AW_aload_n 0 (n := 0) rfl dL_law_865 rfl ?_
      refine AW_iload_n 3 (n := 3) rfl dL_law_866 rfl ?_
      refine AW_iconst (v := 2) dL_law_867 rfl ?_
      refine AW_iadd dL_law_868 ?_
      refine AW_sld dL_law_869 h.1 ?_
      replace h := h.2
      refine AW_callVl (M := mL_law) (pc := 870) (As := [.int (gX g (x3 + 1).toNatClampNeg), .int (gX g (x3 + 2).toNatClampNeg)]) (ρ1 := ρ) (st := [.long v47]) dL_law_870 mdX12_share rfl mlL_119 imX12_share seX12_share (rcv_of (q := (RX12, TX12, 40)) (Nat.le_of_ble_eq_true rfl) (okn hρ (Nat.le_of_ble_eq_true rfl)) rfl rfl) ⟨rfl, npX12_share⟩ (Nat.le_of_ble_eq_true rfl) hcle hule rfl (CALLl.mono h (fun v48 S48 _ h => ?_))
      refine AW_lc_eq dL_law_873 dL_law_874 rfl (iteM h (fun h => ?_) (fun h => ?_))
      · refine AW_iinc 3 (v := x3 + 6) dL_law_1276 rfl rfl (Nat.le_of_ble_eq_true rfl) rfl ?_
        refine AW_goto (tgt := 18) dL_law_1279 rfl ?_
        exact AW.sub [1, 2, 3, 0] rfl h
      · refine AW_iconst (v := 0) dL_law_877 rfl ?_
        refine AW.rhoE h.1 ?_
        replace h := h.2
        exact AW_retz dL_law_878 rfl Bz0 h
    rw [if_neg hc] at h
    have hc23 := hc
    clear hc
    by_cases hc : ((gX g x3.toNatClampNeg) &&& 63) = 24
    · rw [if_pos hc] at h
      refine AW_tswIn (tgt := 879) dL_law_33 (by rw [hc]; decide) (by rw [hc]; decide) (by rw [hc]; rfl) rfl ?_
      refine AW_aload_n 1 (n := 1) rfl dL_law_879 rfl ?_
      refine AW_callVl (M := mL_law) (pc := 880) (As := []) (ρ1 := ρ) (st := []) dL_law_880 mdX11_chi rfl mlL_120 imX11_chi seX11_chi (rcv_of (q := (RX11, TX11, 8)) (Nat.le_of_ble_eq_true rfl) (okn hρ (Nat.le_of_ble_eq_true rfl)) rfl rfl) ⟨rfl, npX11_chi⟩ (Nat.le_of_ble_eq_true rfl) hcle hule rfl (CALLl.mono h (fun v49 S49 _ h => ?_))
      refine AW_aload_n 2 (n := 2) rfl dL_law_883 rfl ?_
      refine AW_callVl (M := mL_law) (pc := 884) (As := []) (ρ1 := ρ) (st := [.long v49]) dL_law_884 mdX12_chi rfl mlL_123 imX12_chi seX12_chi (rcv_of (q := (RX12, TX12, 40)) (Nat.le_of_ble_eq_true rfl) (okn hρ (Nat.le_of_ble_eq_true rfl)) rfl rfl) ⟨rfl, npX12_chi⟩ (Nat.le_of_ble_eq_true rfl) hcle hule rfl (CALLl.mono h (fun v50 S50 _ h => ?_))
      refine AW_lc_eq dL_law_887 dL_law_888 rfl (iteM h (fun h => ?_) (fun h => ?_))
      · refine AW_iinc 3 (v := x3 + 6) dL_law_1276 rfl rfl (Nat.le_of_ble_eq_true rfl) rfl ?_
        refine AW_goto (tgt := 18) dL_law_1279 rfl ?_
        exact AW.sub [1, 2, 3, 0] rfl h
      · refine AW_iconst (v := 0) dL_law_891 rfl ?_
        refine AW.rhoE h.1 ?_
        replace h := h.2
        exact AW_retz dL_law_892 rfl Bz0 h
    rw [if_neg hc] at h
    have hc24 := hc
    clear hc
    by_cases hc : ((gX g x3.toNatClampNeg) &&& 63) = 25
    · rw [if_pos hc] at h
      refine AW_tswIn (tgt := 893) dL_law_33 (by rw [hc]; decide) (by rw [hc]; decide) (by rw [hc]; rfl) rfl ?_
      refine AW_aload_n 1 (n := 1) rfl dL_law_893 rfl ?_
      refine AW_aload_n 0 (n := 0) rfl dL_law_894 rfl ?_
      refine AW_iload_n 3 (n := 3) rfl dL_law_895 rfl ?_
      refine AW_iconst (v := 1) dL_law_896 rfl ?_
      refine AW_iadd dL_law_897 ?_
      refine AW_sld dL_law_898 h.1 ?_
      replace h := h.2
      refine AW_aload_n 0 (n := 0) rfl dL_law_899 rfl ?_
      refine AW_iload_n 3 (n := 3) rfl dL_law_900 rfl ?_
      refine AW_iconst (v := 2) dL_law_901 rfl ?_
      refine AW_iadd dL_law_902 ?_
      refine AW_sld dL_law_903 h.1 ?_
      replace h := h.2
      refine AW_callVi (M := mL_law) (pc := 904) (As := [.int (gX g (x3 + 1).toNatClampNeg), .int (gX g (x3 + 2).toNatClampNeg)]) (ρ1 := ρ) (st := []) dL_law_904 mdX11_excess rfl mlL_124 imX11_excess seX11_excess (rcv_of (q := (RX11, TX11, 8)) (Nat.le_of_ble_eq_true rfl) (okn hρ (Nat.le_of_ble_eq_true rfl)) rfl rfl) ⟨rfl, npX11_excess⟩ (Nat.le_of_ble_eq_true rfl) hcle hule rfl (CALLi.mono h (fun v51 S51 _ h => ?_))
      refine AW_aload_n 2 (n := 2) rfl dL_law_907 rfl ?_
      refine AW_aload_n 0 (n := 0) rfl dL_law_908 rfl ?_
      refine AW_iload_n 3 (n := 3) rfl dL_law_909 rfl ?_
      refine AW_iconst (v := 1) dL_law_910 rfl ?_
      refine AW_iadd dL_law_911 ?_
      refine AW_sld dL_law_912 h.1 ?_
      replace h := h.2
      refine AW_aload_n 0 (n := 0) rfl dL_law_913 rfl ?_
      refine AW_iload_n 3 (n := 3) rfl dL_law_914 rfl ?_
      refine AW_iconst (v := 2) dL_law_915 rfl ?_
      refine AW_iadd dL_law_916 ?_
      refine AW_sld dL_law_917 h.1 ?_
      replace h := h.2
      refine AW_callVi (M := mL_law) (pc := 918) (As := [.int (gX g (x3 + 1).toNatClampNeg), .int (gX g (x3 + 2).toNatClampNeg)]) (ρ1 := ρ) (st := [.int v51]) dL_law_918 mdX12_excess rfl mlL_127 imX12_excess seX12_excess (rcv_of (q := (RX12, TX12, 40)) (Nat.le_of_ble_eq_true rfl) (okn hρ (Nat.le_of_ble_eq_true rfl)) rfl rfl) ⟨rfl, npX12_excess⟩ (Nat.le_of_ble_eq_true rfl) hcle hule rfl (CALLi.mono h (fun v52 S52 _ h => ?_))
      refine AW_icmp_eq dL_law_921 rfl (iteM h (fun h => ?_) (fun h => ?_))
      · refine AW_iinc 3 (v := x3 + 6) dL_law_1276 rfl rfl (Nat.le_of_ble_eq_true rfl) rfl ?_
        refine AW_goto (tgt := 18) dL_law_1279 rfl ?_
        exact AW.sub [1, 2, 3, 0] rfl h
      · refine AW_iconst (v := 0) dL_law_924 rfl ?_
        refine AW.rhoE h.1 ?_
        replace h := h.2
        exact AW_retz dL_law_925 rfl Bz0 h
    rw [if_neg hc] at h
    have hc25 := hc
    clear hc
    by_cases hc : ((gX g x3.toNatClampNeg) &&& 63) = 26
    · rw [if_pos hc] at h
      refine AW_tswIn (tgt := 926) dL_law_33 (by rw [hc]; decide) (by rw [hc]; decide) (by rw [hc]; rfl) rfl ?_
      refine AW_aload_n 1 (n := 1) rfl dL_law_926 rfl ?_
      refine AW_callVi (M := mL_law) (pc := 927) (As := []) (ρ1 := ρ) (st := []) dL_law_927 mdX11_swaps rfl mlL_128 imX11_swaps seX11_swaps (rcv_of (q := (RX11, TX11, 8)) (Nat.le_of_ble_eq_true rfl) (okn hρ (Nat.le_of_ble_eq_true rfl)) rfl rfl) ⟨rfl, npX11_swaps⟩ (Nat.le_of_ble_eq_true rfl) hcle hule rfl (CALLi.mono h (fun v53 S53 _ h => ?_))
      refine AW_aload_n 2 (n := 2) rfl dL_law_930 rfl ?_
      refine AW_callVi (M := mL_law) (pc := 931) (As := []) (ρ1 := ρ) (st := [.int v53]) dL_law_931 mdX12_swaps rfl mlL_131 imX12_swaps seX12_swaps (rcv_of (q := (RX12, TX12, 40)) (Nat.le_of_ble_eq_true rfl) (okn hρ (Nat.le_of_ble_eq_true rfl)) rfl rfl) ⟨rfl, npX12_swaps⟩ (Nat.le_of_ble_eq_true rfl) hcle hule rfl (CALLi.mono h (fun v54 S54 _ h => ?_))
      refine AW_icmp_eq dL_law_934 rfl (iteM h (fun h => ?_) (fun h => ?_))
      · refine AW_iinc 3 (v := x3 + 6) dL_law_1276 rfl rfl (Nat.le_of_ble_eq_true rfl) rfl ?_
        refine AW_goto (tgt := 18) dL_law_1279 rfl ?_
        exact AW.sub [1, 2, 3, 0] rfl h
      · refine AW_iconst (v := 0) dL_law_937 rfl ?_
        refine AW.rhoE h.1 ?_
        replace h := h.2
        exact AW_retz dL_law_938 rfl Bz0 h
    rw [if_neg hc] at h
    have hc26 := hc
    clear hc
    by_cases hc : ((gX g x3.toNatClampNeg) &&& 63) = 27
    · rw [if_pos hc] at h
      refine AW_tswIn (tgt := 939) dL_law_33 (by rw [hc]; decide) (by rw [hc]; decide) (by rw [hc]; rfl) rfl ?_
      refine AW_aload_n 1 (n := 1) rfl dL_law_939 rfl ?_
      refine AW_callVi (M := mL_law) (pc := 940) (As := []) (ρ1 := ρ55) (st := []) dL_law_940 mdX11_classes rfl mlL_132 imX11_classes seX11_classes (rcv_of (q := (RX11, TX11, 8)) (Nat.le_of_ble_eq_true rfl) (okn hρ (Nat.le_of_ble_eq_true rfl)) rfl rfl) ⟨rfl, npX11_classes⟩ (Nat.le_of_ble_eq_true rfl) hcl55 hul55 rfl (CALLi.mono h (fun v55 S55 _ h => ?_))
      refine AW_aload_n 2 (n := 2) rfl dL_law_943 rfl ?_
      refine AW_callVi (M := mL_law) (pc := 944) (As := []) (ρ1 := ρ55) (st := [.int v55]) dL_law_944 mdX12_classes rfl mlL_135 imX12_classes seX12_classes (rcv_of (q := (RX12, TX12, 40)) (Nat.le_of_ble_eq_true rfl) (okn hρ55 (Nat.le_of_ble_eq_true rfl)) rfl rfl) ⟨rfl, npX12_classes⟩ (Nat.le_of_ble_eq_true rfl) hcl55 hul55 rfl (CALLi.mono h (fun v56 S56 _ h => ?_))
      refine AW_icmp_eq dL_law_947 rfl (iteM h (fun h => ?_) (fun h => ?_))
      · refine AW_iinc 3 (v := x3 + 6) dL_law_1276 rfl rfl (Nat.le_of_ble_eq_true rfl) rfl ?_
        refine AW_goto (tgt := 18) dL_law_1279 rfl ?_
        exact AW.sub [1, 2, 3, 0] rfl h
      · refine AW_iconst (v := 0) dL_law_950 rfl ?_
        refine AW.rhoE h.1 ?_
        replace h := h.2
        exact AW_retz dL_law_951 rfl Bz0 h
    rw [if_neg hc] at h
    have hc27 := hc
    clear hc
    by_cases hc : ((gX g x3.toNatClampNeg) &&& 63) = 28
    · rw [if_pos hc] at h
      refine AW_tswIn (tgt := 952) dL_law_33 (by rw [hc]; decide) (by rw [hc]; decide) (by rw [hc]; rfl) rfl ?_
      refine AW_aload_n 1 (n := 1) rfl dL_law_952 rfl ?_
      refine AW_callVi (M := mL_law) (pc := 953) (As := []) (ρ1 := ρ57) (st := []) dL_law_953 mdX11_joined rfl mlL_136 imX11_joined seX11_joined (rcv_of (q := (RX11, TX11, 8)) (Nat.le_of_ble_eq_true rfl) (okn hρ (Nat.le_of_ble_eq_true rfl)) rfl rfl) ⟨rfl, npX11_joined⟩ (Nat.le_of_ble_eq_true rfl) hcl57 hul57 rfl (CALLi.mono h (fun v57 S57 _ h => ?_))
      refine AW_aload_n 2 (n := 2) rfl dL_law_956 rfl ?_
      refine AW_callVi (M := mL_law) (pc := 957) (As := []) (ρ1 := ρ57) (st := [.int v57]) dL_law_957 mdX12_joined rfl mlL_139 imX12_joined seX12_joined (rcv_of (q := (RX12, TX12, 40)) (Nat.le_of_ble_eq_true rfl) (okn hρ57 (Nat.le_of_ble_eq_true rfl)) rfl rfl) ⟨rfl, npX12_joined⟩ (Nat.le_of_ble_eq_true rfl) hcl57 hul57 rfl (CALLi.mono h (fun v58 S58 _ h => ?_))
      refine AW_icmp_eq dL_law_960 rfl (iteM h (fun h => ?_) (fun h => ?_))
      · refine AW_iinc 3 (v := x3 + 6) dL_law_1276 rfl rfl (Nat.le_of_ble_eq_true rfl) rfl ?_
        refine AW_goto (tgt := 18) dL_law_1279 rfl ?_
        exact AW.sub [1, 2, 3, 0] rfl h
      · refine AW_iconst (v := 0) dL_law_963 rfl ?_
        refine AW.rhoE h.1 ?_
        replace h := h.2
        exact AW_retz dL_law_964 rfl Bz0 h
    rw [if_neg hc] at h
    have hc28 := hc
    clear hc
    by_cases hc : ((gX g x3.toNatClampNeg) &&& 63) = 29
    · rw [if_pos hc] at h
      refine AW_tswIn (tgt := 965) dL_law_33 (by rw [hc]; decide) (by rw [hc]; decide) (by rw [hc]; rfl) rfl ?_
      refine AW_aload_n 1 (n := 1) rfl dL_law_965 rfl ?_
      refine AW_aload_n 0 (n := 0) rfl dL_law_966 rfl ?_
      refine AW_iload_n 3 (n := 3) rfl dL_law_967 rfl ?_
      refine AW_iconst (v := 1) dL_law_968 rfl ?_
      refine AW_iadd dL_law_969 ?_
      refine AW_sld dL_law_970 h.1 ?_
      replace h := h.2
      refine AW_callVi (M := mL_law) (pc := 971) (As := [.int (gX g (x3 + 1).toNatClampNeg)]) (ρ1 := ρ59) (st := []) dL_law_971 mdX11_classOf rfl mlL_140 imX11_classOf seX11_classOf (rcv_of (q := (RX11, TX11, 8)) (Nat.le_of_ble_eq_true rfl) (okn hρ (Nat.le_of_ble_eq_true rfl)) rfl rfl) ⟨rfl, npX11_classOf⟩ (Nat.le_of_ble_eq_true rfl) hcl59 hul59 rfl (CALLi.mono h (fun v59 S59 _ h => ?_))
      refine AW_aload_n 2 (n := 2) rfl dL_law_974 rfl ?_
      refine AW_aload_n 0 (n := 0) rfl dL_law_975 rfl ?_
      refine AW_iload_n 3 (n := 3) rfl dL_law_976 rfl ?_
      refine AW_iconst (v := 1) dL_law_977 rfl ?_
      refine AW_iadd dL_law_978 ?_
      refine AW_sld dL_law_979 h.1 ?_
      replace h := h.2
      refine AW_callVi (M := mL_law) (pc := 980) (As := [.int (gX g (x3 + 1).toNatClampNeg)]) (ρ1 := ρ59) (st := [.int v59]) dL_law_980 mdX12_classOf rfl mlL_143 imX12_classOf seX12_classOf (rcv_of (q := (RX12, TX12, 40)) (Nat.le_of_ble_eq_true rfl) (okn hρ59 (Nat.le_of_ble_eq_true rfl)) rfl rfl) ⟨rfl, npX12_classOf⟩ (Nat.le_of_ble_eq_true rfl) hcl59 hul59 rfl (CALLi.mono h (fun v60 S60 _ h => ?_))
      refine AW_icmp_eq dL_law_983 rfl (iteM h (fun h => ?_) (fun h => ?_))
      · refine AW_iinc 3 (v := x3 + 6) dL_law_1276 rfl rfl (Nat.le_of_ble_eq_true rfl) rfl ?_
        refine AW_goto (tgt := 18) dL_law_1279 rfl ?_
        exact AW.sub [1, 2, 3, 0] rfl h
      · refine AW_iconst (v := 0) dL_law_986 rfl ?_
        refine AW.rhoE h.1 ?_
        replace h := h.2
        exact AW_retz dL_law_987 rfl Bz0 h
    rw [if_neg hc] at h
    have hc29 := hc
    clear hc
    by_cases hc : ((gX g x3.toNatClampNeg) &&& 63) = 30
    · rw [if_pos hc] at h
      refine AW_tswIn (tgt := 988) dL_law_33 (by rw [hc]; decide) (by rw [hc]; decide) (by rw [hc]; rfl) rfl ?_
      refine AW_aload_n 1 (n := 1) rfl dL_law_988 rfl ?_
      refine AW_aload_n 0 (n := 0) rfl dL_law_989 rfl ?_
      refine AW_iload_n 3 (n := 3) rfl dL_law_990 rfl ?_
      refine AW_iconst (v := 1) dL_law_991 rfl ?_
      refine AW_iadd dL_law_992 ?_
      refine AW_sld dL_law_993 h.1 ?_
      replace h := h.2
      refine AW_callVi (M := mL_law) (pc := 994) (As := [.int (gX g (x3 + 1).toNatClampNeg)]) (ρ1 := ρ61) (st := []) dL_law_994 mdX11_sized rfl mlL_144 imX11_sized seX11_sized (rcv_of (q := (RX11, TX11, 8)) (Nat.le_of_ble_eq_true rfl) (okn hρ (Nat.le_of_ble_eq_true rfl)) rfl rfl) ⟨rfl, npX11_sized⟩ (Nat.le_of_ble_eq_true rfl) hcl61 hul61 rfl (CALLi.mono h (fun v61 S61 _ h => ?_))
      refine AW_aload_n 2 (n := 2) rfl dL_law_997 rfl ?_
      refine AW_aload_n 0 (n := 0) rfl dL_law_998 rfl ?_
      refine AW_iload_n 3 (n := 3) rfl dL_law_999 rfl ?_
      refine AW_iconst (v := 1) dL_law_1000 rfl ?_
      refine AW_iadd dL_law_1001 ?_
      refine AW_sld dL_law_1002 h.1 ?_
      replace h := h.2
      refine AW_callVi (M := mL_law) (pc := 1003) (As := [.int (gX g (x3 + 1).toNatClampNeg)]) (ρ1 := ρ61) (st := [.int v61]) dL_law_1003 mdX12_sized rfl mlL_147 imX12_sized seX12_sized (rcv_of (q := (RX12, TX12, 40)) (Nat.le_of_ble_eq_true rfl) (okn hρ61 (Nat.le_of_ble_eq_true rfl)) rfl rfl) ⟨rfl, npX12_sized⟩ (Nat.le_of_ble_eq_true rfl) hcl61 hul61 rfl (CALLi.mono h (fun v62 S62 _ h => ?_))
      refine AW_icmp_eq dL_law_1006 rfl (iteM h (fun h => ?_) (fun h => ?_))
      · refine AW_iinc 3 (v := x3 + 6) dL_law_1276 rfl rfl (Nat.le_of_ble_eq_true rfl) rfl ?_
        refine AW_goto (tgt := 18) dL_law_1279 rfl ?_
        exact AW.sub [1, 2, 3, 0] rfl h
      · refine AW_iconst (v := 0) dL_law_1009 rfl ?_
        refine AW.rhoE h.1 ?_
        replace h := h.2
        exact AW_retz dL_law_1010 rfl Bz0 h
    rw [if_neg hc] at h
    have hc30 := hc
    clear hc
    by_cases hc : ((gX g x3.toNatClampNeg) &&& 63) = 31
    · rw [if_pos hc] at h
      refine AW_tswIn (tgt := 1011) dL_law_33 (by rw [hc]; decide) (by rw [hc]; decide) (by rw [hc]; rfl) rfl ?_
      refine AW_aload_n 1 (n := 1) rfl dL_law_1011 rfl ?_
      refine AW_aload_n 0 (n := 0) rfl dL_law_1012 rfl ?_
      refine AW_iload_n 3 (n := 3) rfl dL_law_1013 rfl ?_
      refine AW_iconst (v := 1) dL_law_1014 rfl ?_
      refine AW_iadd dL_law_1015 ?_
      refine AW_sld dL_law_1016 h.1 ?_
      replace h := h.2
      refine AW_aload_n 0 (n := 0) rfl dL_law_1017 rfl ?_
      refine AW_iload_n 3 (n := 3) rfl dL_law_1018 rfl ?_
      refine AW_iconst (v := 2) dL_law_1019 rfl ?_
      refine AW_iadd dL_law_1020 ?_
      refine AW_sld dL_law_1021 h.1 ?_
      replace h := h.2
      refine AW_callVi (M := mL_law) (pc := 1022) (As := [.int (gX g (x3 + 1).toNatClampNeg), .int (gX g (x3 + 2).toNatClampNeg)]) (ρ1 := ρ63) (st := []) dL_law_1022 mdX11_apart rfl mlL_148 imX11_apart seX11_apart (rcv_of (q := (RX11, TX11, 8)) (Nat.le_of_ble_eq_true rfl) (okn hρ (Nat.le_of_ble_eq_true rfl)) rfl rfl) ⟨rfl, npX11_apart⟩ (Nat.le_of_ble_eq_true rfl) hcl63 hul63 rfl (CALLi.mono h (fun v63 S63 _ h => ?_))
      refine AW_aload_n 2 (n := 2) rfl dL_law_1025 rfl ?_
      refine AW_aload_n 0 (n := 0) rfl dL_law_1026 rfl ?_
      refine AW_iload_n 3 (n := 3) rfl dL_law_1027 rfl ?_
      refine AW_iconst (v := 1) dL_law_1028 rfl ?_
      refine AW_iadd dL_law_1029 ?_
      refine AW_sld dL_law_1030 h.1 ?_
      replace h := h.2
      refine AW_aload_n 0 (n := 0) rfl dL_law_1031 rfl ?_
      refine AW_iload_n 3 (n := 3) rfl dL_law_1032 rfl ?_
      refine AW_iconst (v := 2) dL_law_1033 rfl ?_
      refine AW_iadd dL_law_1034 ?_
      refine AW_sld dL_law_1035 h.1 ?_
      replace h := h.2
      refine AW_callVi (M := mL_law) (pc := 1036) (As := [.int (gX g (x3 + 1).toNatClampNeg), .int (gX g (x3 + 2).toNatClampNeg)]) (ρ1 := ρ63) (st := [.int v63]) dL_law_1036 mdX12_apart rfl mlL_151 imX12_apart seX12_apart (rcv_of (q := (RX12, TX12, 40)) (Nat.le_of_ble_eq_true rfl) (okn hρ63 (Nat.le_of_ble_eq_true rfl)) rfl rfl) ⟨rfl, npX12_apart⟩ (Nat.le_of_ble_eq_true rfl) hcl63 hul63 rfl (CALLi.mono h (fun v64 S64 _ h => ?_))
      refine AW_icmp_eq dL_law_1039 rfl (iteM h (fun h => ?_) (fun h => ?_))
      · refine AW_iinc 3 (v := x3 + 6) dL_law_1276 rfl rfl (Nat.le_of_ble_eq_true rfl) rfl ?_
        refine AW_goto (tgt := 18) dL_law_1279 rfl ?_
        exact AW.sub [1, 2, 3, 0] rfl h
      · refine AW_iconst (v := 0) dL_law_1042 rfl ?_
        refine AW.rhoE h.1 ?_
        replace h := h.2
        exact AW_retz dL_law_1043 rfl Bz0 h
    rw [if_neg hc] at h
    have hc31 := hc
    clear hc
    by_cases hc : ((gX g x3.toNatClampNeg) &&& 63) = 32
    · rw [if_pos hc] at h
      refine AW_tswIn (tgt := 1044) dL_law_33 (by rw [hc]; decide) (by rw [hc]; decide) (by rw [hc]; rfl) rfl ?_
      refine AW_aload_n 1 (n := 1) rfl dL_law_1044 rfl ?_
      refine AW_callVi (M := mL_law) (pc := 1045) (As := []) (ρ1 := ρ65) (st := []) dL_law_1045 mdX11_far rfl mlL_152 imX11_far seX11_far (rcv_of (q := (RX11, TX11, 8)) (Nat.le_of_ble_eq_true rfl) (okn hρ (Nat.le_of_ble_eq_true rfl)) rfl rfl) ⟨rfl, npX11_far⟩ (Nat.le_of_ble_eq_true rfl) hcl65 hul65 rfl (CALLi.mono h (fun v65 S65 _ h => ?_))
      refine AW_aload_n 2 (n := 2) rfl dL_law_1048 rfl ?_
      refine AW_callVi (M := mL_law) (pc := 1049) (As := []) (ρ1 := ρ65) (st := [.int v65]) dL_law_1049 mdX12_far rfl mlL_155 imX12_far seX12_far (rcv_of (q := (RX12, TX12, 40)) (Nat.le_of_ble_eq_true rfl) (okn hρ65 (Nat.le_of_ble_eq_true rfl)) rfl rfl) ⟨rfl, npX12_far⟩ (Nat.le_of_ble_eq_true rfl) hcl65 hul65 rfl (CALLi.mono h (fun v66 S66 _ h => ?_))
      refine AW_icmp_eq dL_law_1052 rfl (iteM h (fun h => ?_) (fun h => ?_))
      · refine AW_iinc 3 (v := x3 + 6) dL_law_1276 rfl rfl (Nat.le_of_ble_eq_true rfl) rfl ?_
        refine AW_goto (tgt := 18) dL_law_1279 rfl ?_
        exact AW.sub [1, 2, 3, 0] rfl h
      · refine AW_iconst (v := 0) dL_law_1055 rfl ?_
        refine AW.rhoE h.1 ?_
        replace h := h.2
        exact AW_retz dL_law_1056 rfl Bz0 h
    rw [if_neg hc] at h
    have hc32 := hc
    clear hc
    by_cases hc : ((gX g x3.toNatClampNeg) &&& 63) = 33
    · rw [if_pos hc] at h
      refine AW_tswIn (tgt := 1057) dL_law_33 (by rw [hc]; decide) (by rw [hc]; decide) (by rw [hc]; rfl) rfl ?_
      refine AW_aload_n 1 (n := 1) rfl dL_law_1057 rfl ?_
      refine AW_callVi (M := mL_law) (pc := 1058) (As := []) (ρ1 := ρ67) (st := []) dL_law_1058 mdX11_farthest rfl mlL_156 imX11_farthest seX11_farthest (rcv_of (q := (RX11, TX11, 8)) (Nat.le_of_ble_eq_true rfl) (okn hρ (Nat.le_of_ble_eq_true rfl)) rfl rfl) ⟨rfl, npX11_farthest⟩ (Nat.le_of_ble_eq_true rfl) hcl67 hul67 rfl (CALLi.mono h (fun v67 S67 _ h => ?_))
      refine AW_aload_n 2 (n := 2) rfl dL_law_1061 rfl ?_
      refine AW_callVi (M := mL_law) (pc := 1062) (As := []) (ρ1 := ρ67) (st := [.int v67]) dL_law_1062 mdX12_farthest rfl mlL_159 imX12_farthest seX12_farthest (rcv_of (q := (RX12, TX12, 40)) (Nat.le_of_ble_eq_true rfl) (okn hρ67 (Nat.le_of_ble_eq_true rfl)) rfl rfl) ⟨rfl, npX12_farthest⟩ (Nat.le_of_ble_eq_true rfl) hcl67 hul67 rfl (CALLi.mono h (fun v68 S68 _ h => ?_))
      refine AW_icmp_eq dL_law_1065 rfl (iteM h (fun h => ?_) (fun h => ?_))
      · refine AW_iinc 3 (v := x3 + 6) dL_law_1276 rfl rfl (Nat.le_of_ble_eq_true rfl) rfl ?_
        refine AW_goto (tgt := 18) dL_law_1279 rfl ?_
        exact AW.sub [1, 2, 3, 0] rfl h
      · refine AW_iconst (v := 0) dL_law_1068 rfl ?_
        refine AW.rhoE h.1 ?_
        replace h := h.2
        exact AW_retz dL_law_1069 rfl Bz0 h
    rw [if_neg hc] at h
    have hc33 := hc
    clear hc
    by_cases hc : ((gX g x3.toNatClampNeg) &&& 63) = 34
    · rw [if_pos hc] at h
      refine AW_tswIn (tgt := 1070) dL_law_33 (by rw [hc]; decide) (by rw [hc]; decide) (by rw [hc]; rfl) rfl ?_
      refine AW_aload_n 1 (n := 1) rfl dL_law_1070 rfl ?_
      refine AW_aload_n 0 (n := 0) rfl dL_law_1071 rfl ?_
      refine AW_iload_n 3 (n := 3) rfl dL_law_1072 rfl ?_
      refine AW_iconst (v := 1) dL_law_1073 rfl ?_
      refine AW_iadd dL_law_1074 ?_
      refine AW_sld dL_law_1075 h.1 ?_
      replace h := h.2
      refine AW_callVi (M := mL_law) (pc := 1076) (As := [.int (gX g (x3 + 1).toNatClampNeg)]) (ρ1 := ρ69) (st := []) dL_law_1076 mdX11_within rfl mlL_160 imX11_within seX11_within (rcv_of (q := (RX11, TX11, 8)) (Nat.le_of_ble_eq_true rfl) (okn hρ (Nat.le_of_ble_eq_true rfl)) rfl rfl) ⟨rfl, npX11_within⟩ (Nat.le_of_ble_eq_true rfl) hcl69 hul69 rfl (CALLi.mono h (fun v69 S69 _ h => ?_))
      refine AW_aload_n 2 (n := 2) rfl dL_law_1079 rfl ?_
      refine AW_aload_n 0 (n := 0) rfl dL_law_1080 rfl ?_
      refine AW_iload_n 3 (n := 3) rfl dL_law_1081 rfl ?_
      refine AW_iconst (v := 1) dL_law_1082 rfl ?_
      refine AW_iadd dL_law_1083 ?_
      refine AW_sld dL_law_1084 h.1 ?_
      replace h := h.2
      refine AW_callVi (M := mL_law) (pc := 1085) (As := [.int (gX g (x3 + 1).toNatClampNeg)]) (ρ1 := ρ69) (st := [.int v69]) dL_law_1085 mdX12_within rfl mlL_163 imX12_within seX12_within (rcv_of (q := (RX12, TX12, 40)) (Nat.le_of_ble_eq_true rfl) (okn hρ69 (Nat.le_of_ble_eq_true rfl)) rfl rfl) ⟨rfl, npX12_within⟩ (Nat.le_of_ble_eq_true rfl) hcl69 hul69 rfl (CALLi.mono h (fun v70 S70 _ h => ?_))
      refine AW_icmp_eq dL_law_1088 rfl (iteM h (fun h => ?_) (fun h => ?_))
      · refine AW_iinc 3 (v := x3 + 6) dL_law_1276 rfl rfl (Nat.le_of_ble_eq_true rfl) rfl ?_
        refine AW_goto (tgt := 18) dL_law_1279 rfl ?_
        exact AW.sub [1, 2, 3, 0] rfl h
      · refine AW_iconst (v := 0) dL_law_1091 rfl ?_
        refine AW.rhoE h.1 ?_
        replace h := h.2
        exact AW_retz dL_law_1092 rfl Bz0 h
    rw [if_neg hc] at h
    have hc34 := hc
    clear hc
    by_cases hc : ((gX g x3.toNatClampNeg) &&& 63) = 35
    · rw [if_pos hc] at h
      refine AW_tswIn (tgt := 1093) dL_law_33 (by rw [hc]; decide) (by rw [hc]; decide) (by rw [hc]; rfl) rfl ?_
      refine AW_aload_n 1 (n := 1) rfl dL_law_1093 rfl ?_
      refine AW_aload_n 0 (n := 0) rfl dL_law_1094 rfl ?_
      refine AW_iload_n 3 (n := 3) rfl dL_law_1095 rfl ?_
      refine AW_iconst (v := 1) dL_law_1096 rfl ?_
      refine AW_iadd dL_law_1097 ?_
      refine AW_sld dL_law_1098 h.1 ?_
      replace h := h.2
      refine AW_aload_n 0 (n := 0) rfl dL_law_1099 rfl ?_
      refine AW_iload_n 3 (n := 3) rfl dL_law_1100 rfl ?_
      refine AW_iconst (v := 2) dL_law_1101 rfl ?_
      refine AW_iadd dL_law_1102 ?_
      refine AW_sld dL_law_1103 h.1 ?_
      replace h := h.2
      refine AW_callVl (M := mL_law) (pc := 1104) (As := [.int (gX g (x3 + 1).toNatClampNeg), .int (gX g (x3 + 2).toNatClampNeg)]) (ρ1 := ρ71) (st := []) dL_law_1104 mdX11_ways rfl mlL_164 imX11_ways seX11_ways (rcv_of (q := (RX11, TX11, 8)) (Nat.le_of_ble_eq_true rfl) (okn hρ (Nat.le_of_ble_eq_true rfl)) rfl rfl) ⟨rfl, npX11_ways⟩ (Nat.le_of_ble_eq_true rfl) hcl71 hul71 rfl (CALLl.mono h (fun v71 S71 _ h => ?_))
      refine AW_aload_n 2 (n := 2) rfl dL_law_1107 rfl ?_
      refine AW_aload_n 0 (n := 0) rfl dL_law_1108 rfl ?_
      refine AW_iload_n 3 (n := 3) rfl dL_law_1109 rfl ?_
      refine AW_iconst (v := 1) dL_law_1110 rfl ?_
      refine AW_iadd dL_law_1111 ?_
      refine AW_sld dL_law_1112 h.1 ?_
      replace h := h.2
      refine AW_aload_n 0 (n := 0) rfl dL_law_1113 rfl ?_
      refine AW_iload_n 3 (n := 3) rfl dL_law_1114 rfl ?_
      refine AW_iconst (v := 2) dL_law_1115 rfl ?_
      refine AW_iadd dL_law_1116 ?_
      refine AW_sld dL_law_1117 h.1 ?_
      replace h := h.2
      refine AW_callVl (M := mL_law) (pc := 1118) (As := [.int (gX g (x3 + 1).toNatClampNeg), .int (gX g (x3 + 2).toNatClampNeg)]) (ρ1 := ρ71) (st := [.long v71]) dL_law_1118 mdX12_ways rfl mlL_167 imX12_ways seX12_ways (rcv_of (q := (RX12, TX12, 40)) (Nat.le_of_ble_eq_true rfl) (okn hρ71 (Nat.le_of_ble_eq_true rfl)) rfl rfl) ⟨rfl, npX12_ways⟩ (Nat.le_of_ble_eq_true rfl) hcl71 hul71 rfl (CALLl.mono h (fun v72 S72 _ h => ?_))
      refine AW_lc_eq dL_law_1121 dL_law_1122 rfl (iteM h (fun h => ?_) (fun h => ?_))
      · refine AW_iinc 3 (v := x3 + 6) dL_law_1276 rfl rfl (Nat.le_of_ble_eq_true rfl) rfl ?_
        refine AW_goto (tgt := 18) dL_law_1279 rfl ?_
        exact AW.sub [1, 2, 3, 0] rfl h
      · refine AW_iconst (v := 0) dL_law_1125 rfl ?_
        refine AW.rhoE h.1 ?_
        replace h := h.2
        exact AW_retz dL_law_1126 rfl Bz0 h
    rw [if_neg hc] at h
    have hc35 := hc
    clear hc
    by_cases hc : ((gX g x3.toNatClampNeg) &&& 63) = 36
    · rw [if_pos hc] at h
      refine AW_tswIn (tgt := 1127) dL_law_33 (by rw [hc]; decide) (by rw [hc]; decide) (by rw [hc]; rfl) rfl ?_
      refine AW_aload_n 1 (n := 1) rfl dL_law_1127 rfl ?_
      refine AW_aload_n 0 (n := 0) rfl dL_law_1128 rfl ?_
      refine AW_iload_n 3 (n := 3) rfl dL_law_1129 rfl ?_
      refine AW_iconst (v := 1) dL_law_1130 rfl ?_
      refine AW_iadd dL_law_1131 ?_
      refine AW_sld dL_law_1132 h.1 ?_
      replace h := h.2
      refine AW_callVl (M := mL_law) (pc := 1133) (As := [.int (gX g (x3 + 1).toNatClampNeg)]) (ρ1 := ρ) (st := []) dL_law_1133 mdX11_drawn rfl mlL_168 imX11_drawn seX11_drawn (rcv_of (q := (RX11, TX11, 8)) (Nat.le_of_ble_eq_true rfl) (okn hρ (Nat.le_of_ble_eq_true rfl)) rfl rfl) ⟨rfl, npX11_drawn⟩ (Nat.le_of_ble_eq_true rfl) hcle hule rfl (CALLl.mono h (fun v73 S73 _ h => ?_))
      refine AW_aload_n 2 (n := 2) rfl dL_law_1136 rfl ?_
      refine AW_aload_n 0 (n := 0) rfl dL_law_1137 rfl ?_
      refine AW_iload_n 3 (n := 3) rfl dL_law_1138 rfl ?_
      refine AW_iconst (v := 1) dL_law_1139 rfl ?_
      refine AW_iadd dL_law_1140 ?_
      refine AW_sld dL_law_1141 h.1 ?_
      replace h := h.2
      refine AW_callVl (M := mL_law) (pc := 1142) (As := [.int (gX g (x3 + 1).toNatClampNeg)]) (ρ1 := ρ) (st := [.long v73]) dL_law_1142 mdX12_drawn rfl mlL_171 imX12_drawn seX12_drawn (rcv_of (q := (RX12, TX12, 40)) (Nat.le_of_ble_eq_true rfl) (okn hρ (Nat.le_of_ble_eq_true rfl)) rfl rfl) ⟨rfl, npX12_drawn⟩ (Nat.le_of_ble_eq_true rfl) hcle hule rfl (CALLl.mono h (fun v74 S74 _ h => ?_))
      refine AW_lc_eq dL_law_1145 dL_law_1146 rfl (iteM h (fun h => ?_) (fun h => ?_))
      · refine AW_iinc 3 (v := x3 + 6) dL_law_1276 rfl rfl (Nat.le_of_ble_eq_true rfl) rfl ?_
        refine AW_goto (tgt := 18) dL_law_1279 rfl ?_
        exact AW.sub [1, 2, 3, 0] rfl h
      · refine AW_iconst (v := 0) dL_law_1149 rfl ?_
        refine AW.rhoE h.1 ?_
        replace h := h.2
        exact AW_retz dL_law_1150 rfl Bz0 h
    rw [if_neg hc] at h
    have hc36 := hc
    clear hc
    by_cases hc : ((gX g x3.toNatClampNeg) &&& 63) = 37
    · rw [if_pos hc] at h
      refine AW_tswIn (tgt := 1151) dL_law_33 (by rw [hc]; decide) (by rw [hc]; decide) (by rw [hc]; rfl) rfl ?_
      refine AW_aload_n 1 (n := 1) rfl dL_law_1151 rfl ?_
      refine AW_callVi (M := mL_law) (pc := 1152) (As := []) (ρ1 := ρ) (st := []) dL_law_1152 mdX11_evenly rfl mlL_172 imX11_evenly seX11_evenly (rcv_of (q := (RX11, TX11, 8)) (Nat.le_of_ble_eq_true rfl) (okn hρ (Nat.le_of_ble_eq_true rfl)) rfl rfl) ⟨rfl, npX11_evenly⟩ (Nat.le_of_ble_eq_true rfl) hcle hule rfl (CALLi.mono h (fun v75 S75 _ h => ?_))
      refine AW_aload_n 2 (n := 2) rfl dL_law_1155 rfl ?_
      refine AW_callVi (M := mL_law) (pc := 1156) (As := []) (ρ1 := ρ) (st := [.int v75]) dL_law_1156 mdX12_evenly rfl mlL_175 imX12_evenly seX12_evenly (rcv_of (q := (RX12, TX12, 40)) (Nat.le_of_ble_eq_true rfl) (okn hρ (Nat.le_of_ble_eq_true rfl)) rfl rfl) ⟨rfl, npX12_evenly⟩ (Nat.le_of_ble_eq_true rfl) hcle hule rfl (CALLi.mono h (fun v76 S76 _ h => ?_))
      refine AW_icmp_eq dL_law_1159 rfl (iteM h (fun h => ?_) (fun h => ?_))
      · refine AW_iinc 3 (v := x3 + 6) dL_law_1276 rfl rfl (Nat.le_of_ble_eq_true rfl) rfl ?_
        refine AW_goto (tgt := 18) dL_law_1279 rfl ?_
        exact AW.sub [1, 2, 3, 0] rfl h
      · refine AW_iconst (v := 0) dL_law_1162 rfl ?_
        refine AW.rhoE h.1 ?_
        replace h := h.2
        exact AW_retz dL_law_1163 rfl Bz0 h
    rw [if_neg hc] at h
    have hc37 := hc
    clear hc
    by_cases hc : ((gX g x3.toNatClampNeg) &&& 63) = 38
    · rw [if_pos hc] at h
      refine AW_tswIn (tgt := 1164) dL_law_33 (by rw [hc]; decide) (by rw [hc]; decide) (by rw [hc]; rfl) rfl ?_
      refine AW_aload_n 1 (n := 1) rfl dL_law_1164 rfl ?_
      refine AW_aload_n 0 (n := 0) rfl dL_law_1165 rfl ?_
      refine AW_iload_n 3 (n := 3) rfl dL_law_1166 rfl ?_
      refine AW_iconst (v := 1) dL_law_1167 rfl ?_
      refine AW_iadd dL_law_1168 ?_
      refine AW_sld dL_law_1169 h.1 ?_
      replace h := h.2
      refine AW_aload_n 0 (n := 0) rfl dL_law_1170 rfl ?_
      refine AW_iload_n 3 (n := 3) rfl dL_law_1171 rfl ?_
      refine AW_iconst (v := 2) dL_law_1172 rfl ?_
      refine AW_iadd dL_law_1173 ?_
      refine AW_sld dL_law_1174 h.1 ?_
      replace h := h.2
      refine AW_aload_n 0 (n := 0) rfl dL_law_1175 rfl ?_
      refine AW_iload_n 3 (n := 3) rfl dL_law_1176 rfl ?_
      refine AW_iconst (v := 3) dL_law_1177 rfl ?_
      refine AW_iadd dL_law_1178 ?_
      refine AW_sld dL_law_1179 h.1 ?_
      replace h := h.2
      refine AW_aload_n 0 (n := 0) rfl dL_law_1180 rfl ?_
      refine AW_iload_n 3 (n := 3) rfl dL_law_1181 rfl ?_
      refine AW_iconst (v := 4) dL_law_1182 rfl ?_
      refine AW_iadd dL_law_1183 ?_
      refine AW_sld dL_law_1184 h.1 ?_
      replace h := h.2
      refine AW_callVi (M := mL_law) (pc := 1185) (As := [.int (gX g (x3 + 1).toNatClampNeg), .int (gX g (x3 + 2).toNatClampNeg), .int (gX g (x3 + 3).toNatClampNeg), .int (gX g (x3 + 4).toNatClampNeg)]) (ρ1 := ρ) (st := []) dL_law_1185 mdX11_swap rfl mlL_176 imX11_swap seX11_swap (rcv_of (q := (RX11, TX11, 8)) (Nat.le_of_ble_eq_true rfl) (okn hρ (Nat.le_of_ble_eq_true rfl)) rfl rfl) ⟨rfl, npX11_swap⟩ (Nat.le_of_ble_eq_true rfl) hcle hule rfl (CALLi.mono h (fun v77 S77 _ h => ?_))
      refine AW_aload_n 2 (n := 2) rfl dL_law_1188 rfl ?_
      refine AW_aload_n 0 (n := 0) rfl dL_law_1189 rfl ?_
      refine AW_iload_n 3 (n := 3) rfl dL_law_1190 rfl ?_
      refine AW_iconst (v := 1) dL_law_1191 rfl ?_
      refine AW_iadd dL_law_1192 ?_
      refine AW_sld dL_law_1193 h.1 ?_
      replace h := h.2
      refine AW_aload_n 0 (n := 0) rfl dL_law_1194 rfl ?_
      refine AW_iload_n 3 (n := 3) rfl dL_law_1195 rfl ?_
      refine AW_iconst (v := 2) dL_law_1196 rfl ?_
      refine AW_iadd dL_law_1197 ?_
      refine AW_sld dL_law_1198 h.1 ?_
      replace h := h.2
      refine AW_aload_n 0 (n := 0) rfl dL_law_1199 rfl ?_
      refine AW_iload_n 3 (n := 3) rfl dL_law_1200 rfl ?_
      refine AW_iconst (v := 3) dL_law_1201 rfl ?_
      refine AW_iadd dL_law_1202 ?_
      refine AW_sld dL_law_1203 h.1 ?_
      replace h := h.2
      refine AW_aload_n 0 (n := 0) rfl dL_law_1204 rfl ?_
      refine AW_iload_n 3 (n := 3) rfl dL_law_1205 rfl ?_
      refine AW_iconst (v := 4) dL_law_1206 rfl ?_
      refine AW_iadd dL_law_1207 ?_
      refine AW_sld dL_law_1208 h.1 ?_
      replace h := h.2
      refine AW_callVi (M := mL_law) (pc := 1209) (As := [.int (gX g (x3 + 1).toNatClampNeg), .int (gX g (x3 + 2).toNatClampNeg), .int (gX g (x3 + 3).toNatClampNeg), .int (gX g (x3 + 4).toNatClampNeg)]) (ρ1 := ρ) (st := [.int v77]) dL_law_1209 mdX12_swap rfl mlL_180 imX12_swap seX12_swap (rcv_of (q := (RX12, TX12, 40)) (Nat.le_of_ble_eq_true rfl) (okn hρ (Nat.le_of_ble_eq_true rfl)) rfl rfl) ⟨rfl, npX12_swap⟩ (Nat.le_of_ble_eq_true rfl) hcle hule rfl (CALLi.mono h (fun v78 S78 _ h => ?_))
      refine AW_icmp_eq dL_law_1212 rfl (iteM h (fun h => ?_) (fun h => ?_))
      · refine AW_iinc 3 (v := x3 + 6) dL_law_1276 rfl rfl (Nat.le_of_ble_eq_true rfl) rfl ?_
        refine AW_goto (tgt := 18) dL_law_1279 rfl ?_
        exact AW.sub [1, 2, 3, 0] rfl h
      · refine AW_iconst (v := 0) dL_law_1215 rfl ?_
        refine AW.rhoE h.1 ?_
        replace h := h.2
        exact AW_retz dL_law_1216 rfl Bz0 h
    rw [if_neg hc] at h
    have hc38 := hc
    clear hc
    by_cases hc : ((gX g x3.toNatClampNeg) &&& 63) = 39
    · rw [if_pos hc] at h
      refine AW_tswIn (tgt := 1217) dL_law_33 (by rw [hc]; decide) (by rw [hc]; decide) (by rw [hc]; rfl) rfl ?_
      refine AW_aload_n 1 (n := 1) rfl dL_law_1217 rfl ?_
      refine AW_aload_n 0 (n := 0) rfl dL_law_1218 rfl ?_
      refine AW_iload_n 3 (n := 3) rfl dL_law_1219 rfl ?_
      refine AW_iconst (v := 1) dL_law_1220 rfl ?_
      refine AW_iadd dL_law_1221 ?_
      refine AW_sld dL_law_1222 h.1 ?_
      replace h := h.2
      refine AW_aload_n 0 (n := 0) rfl dL_law_1223 rfl ?_
      refine AW_iload_n 3 (n := 3) rfl dL_law_1224 rfl ?_
      refine AW_iconst (v := 2) dL_law_1225 rfl ?_
      refine AW_iadd dL_law_1226 ?_
      refine AW_sld dL_law_1227 h.1 ?_
      replace h := h.2
      refine AW_callVi (M := mL_law) (pc := 1228) (As := [.int (gX g (x3 + 1).toNatClampNeg), .int (gX g (x3 + 2).toNatClampNeg)]) (ρ1 := ρ) (st := []) dL_law_1228 mdX11_walk rfl mlL_181 imX11_walk seX11_walk (rcv_of (q := (RX11, TX11, 8)) (Nat.le_of_ble_eq_true rfl) (okn hρ (Nat.le_of_ble_eq_true rfl)) rfl rfl) ⟨rfl, npX11_walk⟩ (Nat.le_of_ble_eq_true rfl) hcle hule rfl (CALLi.mono h (fun v79 S79 _ h => ?_))
      refine AW_aload_n 2 (n := 2) rfl dL_law_1231 rfl ?_
      refine AW_aload_n 0 (n := 0) rfl dL_law_1232 rfl ?_
      refine AW_iload_n 3 (n := 3) rfl dL_law_1233 rfl ?_
      refine AW_iconst (v := 1) dL_law_1234 rfl ?_
      refine AW_iadd dL_law_1235 ?_
      refine AW_sld dL_law_1236 h.1 ?_
      replace h := h.2
      refine AW_aload_n 0 (n := 0) rfl dL_law_1237 rfl ?_
      refine AW_iload_n 3 (n := 3) rfl dL_law_1238 rfl ?_
      refine AW_iconst (v := 2) dL_law_1239 rfl ?_
      refine AW_iadd dL_law_1240 ?_
      refine AW_sld dL_law_1241 h.1 ?_
      replace h := h.2
      refine AW_callVi (M := mL_law) (pc := 1242) (As := [.int (gX g (x3 + 1).toNatClampNeg), .int (gX g (x3 + 2).toNatClampNeg)]) (ρ1 := ρ) (st := [.int v79]) dL_law_1242 mdX12_walk rfl mlL_184 imX12_walk seX12_walk (rcv_of (q := (RX12, TX12, 40)) (Nat.le_of_ble_eq_true rfl) (okn hρ (Nat.le_of_ble_eq_true rfl)) rfl rfl) ⟨rfl, npX12_walk⟩ (Nat.le_of_ble_eq_true rfl) hcle hule rfl (CALLi.mono h (fun v80 S80 _ h => ?_))
      refine AW_icmp_eq dL_law_1245 rfl (iteM h (fun h => ?_) (fun h => ?_))
      · refine AW_iinc 3 (v := x3 + 6) dL_law_1276 rfl rfl (Nat.le_of_ble_eq_true rfl) rfl ?_
        refine AW_goto (tgt := 18) dL_law_1279 rfl ?_
        exact AW.sub [1, 2, 3, 0] rfl h
      · refine AW_iconst (v := 0) dL_law_1248 rfl ?_
        refine AW.rhoE h.1 ?_
        replace h := h.2
        exact AW_retz dL_law_1249 rfl Bz0 h
    rw [if_neg hc] at h
    have hc39 := hc
    clear hc
    by_cases hc : ((gX g x3.toNatClampNeg) &&& 63) = 40
    · rw [if_pos hc] at h
      refine AW_tswIn (tgt := 1250) dL_law_33 (by rw [hc]; decide) (by rw [hc]; decide) (by rw [hc]; rfl) rfl ?_
      refine AW_aload_n 1 (n := 1) rfl dL_law_1250 rfl ?_
      refine AW_callVi (M := mL_law) (pc := 1251) (As := []) (ρ1 := ρ) (st := []) dL_law_1251 mdX11_undo rfl mlL_185 imX11_undo seX11_undo (rcv_of (q := (RX11, TX11, 8)) (Nat.le_of_ble_eq_true rfl) (okn hρ (Nat.le_of_ble_eq_true rfl)) rfl rfl) ⟨rfl, npX11_undo⟩ (Nat.le_of_ble_eq_true rfl) hcle hule rfl (CALLi.mono h (fun v81 S81 _ h => ?_))
      refine AW_aload_n 2 (n := 2) rfl dL_law_1254 rfl ?_
      refine AW_callVi (M := mL_law) (pc := 1255) (As := []) (ρ1 := ρ) (st := [.int v81]) dL_law_1255 mdX12_undo rfl mlL_188 imX12_undo seX12_undo (rcv_of (q := (RX12, TX12, 40)) (Nat.le_of_ble_eq_true rfl) (okn hρ (Nat.le_of_ble_eq_true rfl)) rfl rfl) ⟨rfl, npX12_undo⟩ (Nat.le_of_ble_eq_true rfl) hcle hule rfl (CALLi.mono h (fun v82 S82 _ h => ?_))
      refine AW_icmp_eq dL_law_1258 rfl (iteM h (fun h => ?_) (fun h => ?_))
      · refine AW_iinc 3 (v := x3 + 6) dL_law_1276 rfl rfl (Nat.le_of_ble_eq_true rfl) rfl ?_
        refine AW_goto (tgt := 18) dL_law_1279 rfl ?_
        exact AW.sub [1, 2, 3, 0] rfl h
      · refine AW_iconst (v := 0) dL_law_1261 rfl ?_
        refine AW.rhoE h.1 ?_
        replace h := h.2
        exact AW_retz dL_law_1262 rfl Bz0 h
    rw [if_neg hc] at h
    have hc40 := hc
    clear hc
    by_cases hc : ((gX g x3.toNatClampNeg) &&& 63) = 41
    · rw [if_pos hc] at h
      refine AW_tswIn (tgt := 1263) dL_law_33 (by rw [hc]; decide) (by rw [hc]; decide) (by rw [hc]; rfl) rfl ?_
      refine AW_aload_n 1 (n := 1) rfl dL_law_1263 rfl ?_
      refine AW_callVi (M := mL_law) (pc := 1264) (As := []) (ρ1 := ρ) (st := []) dL_law_1264 mdX11_anew rfl mlL_189 imX11_anew seX11_anew (rcv_of (q := (RX11, TX11, 8)) (Nat.le_of_ble_eq_true rfl) (okn hρ (Nat.le_of_ble_eq_true rfl)) rfl rfl) ⟨rfl, npX11_anew⟩ (Nat.le_of_ble_eq_true rfl) hcle hule rfl (CALLi.mono h (fun v83 S83 _ h => ?_))
      refine AW_aload_n 2 (n := 2) rfl dL_law_1267 rfl ?_
      refine AW_callVi (M := mL_law) (pc := 1268) (As := []) (ρ1 := ρ) (st := [.int v83]) dL_law_1268 mdX12_anew rfl mlL_192 imX12_anew seX12_anew (rcv_of (q := (RX12, TX12, 40)) (Nat.le_of_ble_eq_true rfl) (okn hρ (Nat.le_of_ble_eq_true rfl)) rfl rfl) ⟨rfl, npX12_anew⟩ (Nat.le_of_ble_eq_true rfl) hcle hule rfl (CALLi.mono h (fun v84 S84 _ h => ?_))
      refine AW_icmp_eq dL_law_1271 rfl (iteM h (fun h => ?_) (fun h => ?_))
      · refine AW_iinc 3 (v := x3 + 6) dL_law_1276 rfl rfl (Nat.le_of_ble_eq_true rfl) rfl ?_
        refine AW_goto (tgt := 18) dL_law_1279 rfl ?_
        exact AW.sub [1, 2, 3, 0] rfl h
      · refine AW_iconst (v := 0) dL_law_1274 rfl ?_
        refine AW.rhoE h.1 ?_
        replace h := h.2
        exact AW_retz dL_law_1275 rfl Bz0 h
    rw [if_neg hc] at h
    have hc41 := hc
    clear hc
    refine AW_tswOut (tgt := 1276) dL_law_33 (by have q0 := i32n hc0 (k := 0) rfl; have q1 := i32n hc1 (k := 1) rfl; have q2 := i32n hc2 (k := 2) rfl; have q3 := i32n hc3 (k := 3) rfl; have q4 := i32n hc4 (k := 4) rfl; have q5 := i32n hc5 (k := 5) rfl; have q6 := i32n hc6 (k := 6) rfl; have q7 := i32n hc7 (k := 7) rfl; have q8 := i32n hc8 (k := 8) rfl; have q9 := i32n hc9 (k := 9) rfl; have q10 := i32n hc10 (k := 10) rfl; have q11 := i32n hc11 (k := 11) rfl; have q12 := i32n hc12 (k := 12) rfl; have q13 := i32n hc13 (k := 13) rfl; have q14 := i32n hc14 (k := 14) rfl; have q15 := i32n hc15 (k := 15) rfl; have q16 := i32n hc16 (k := 16) rfl; have q17 := i32n hc17 (k := 17) rfl; have q18 := i32n hc18 (k := 18) rfl; have q19 := i32n hc19 (k := 19) rfl; have q20 := i32n hc20 (k := 20) rfl; have q21 := i32n hc21 (k := 21) rfl; have q22 := i32n hc22 (k := 22) rfl; have q23 := i32n hc23 (k := 23) rfl; have q24 := i32n hc24 (k := 24) rfl; have q25 := i32n hc25 (k := 25) rfl; have q26 := i32n hc26 (k := 26) rfl; have q27 := i32n hc27 (k := 27) rfl; have q28 := i32n hc28 (k := 28) rfl; have q29 := i32n hc29 (k := 29) rfl; have q30 := i32n hc30 (k := 30) rfl; have q31 := i32n hc31 (k := 31) rfl; have q32 := i32n hc32 (k := 32) rfl; have q33 := i32n hc33 (k := 33) rfl; have q34 := i32n hc34 (k := 34) rfl; have q35 := i32n hc35 (k := 35) rfl; have q36 := i32n hc36 (k := 36) rfl; have q37 := i32n hc37 (k := 37) rfl; have q38 := i32n hc38 (k := 38) rfl; have q39 := i32n hc39 (k := 39) rfl; have q40 := i32n hc40 (k := 40) rfl; have q41 := i32n hc41 (k := 41) rfl; omega) rfl ?_
    refine AW_iinc 3 (v := x3 + 6) dL_law_1276 rfl rfl (Nat.le_of_ble_eq_true rfl) rfl ?_
    refine AW_goto (tgt := 18) dL_law_1279 rfl ?_
    exact AW.sub [1, 2, 3, 0] rfl h
