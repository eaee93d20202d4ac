/-! WALKS, printed by wip/whole/gen.py -/
theorem lX8_isPicture_X8 : ∀ w ∈ wsX80, w ∈ wsX8_isPicture := in_at [15, 16, 17, 18, 19, 20, 21, 22, 23, 24, 25, 26, 27, 28, 29, 30, 31, 32, 33, 34, 35, 36, 37, 38] (by decide +kernel)
set_option maxHeartbeats 4000000 in
set_option maxRecDepth 100000 in
theorem ctX8_isPicture (G : gT) (F : Nat) (a_t : Nat → Nat) (m_s : nF) (m_begun : nF) (m_kept : nF) (m_isKept : Int32) (m_past : nF) (m_states : Int32) (m_text : nF) (m_length : Int32) (m_far : nF) (m_queue : nF) (m_isOn : nF) (m_steps : nF) (m_wayCells : Int32) (m_turns : Int32) (m_visits : nF) (m_wasSo : nF) (m_bestAway : Int32) (m_bestMade : Int32) (m_bestFault : Int32) (m_isHere : nF) (m_place : Int32) (m_reason : Int32) (m_wide : Int32) (m_high : Int32) (o : (Int32 × Int32 × Int32 × Int32 × Int32)) (hm : mX8_isPicture F m_text m_length m_place m_reason m_wide m_high = some o) : CT G yX8_isPicture wsX8_isPicture rmX8_isPicture [.ref (a_t 0)] (wX8 G a_t m_s m_begun m_kept m_isKept m_past m_states m_text m_length m_far m_queue m_isOn m_steps m_wayCells m_turns m_visits m_wasSo m_bestAway m_bestMade m_bestFault m_isHere m_place m_reason m_wide m_high) (fun v w => v = some (.int o.1) ∧ w = wX8 G a_t m_s m_begun m_kept m_isKept m_past m_states m_text m_length m_far m_queue m_isOn m_steps m_wayCells m_turns m_visits m_wasSo m_bestAway m_bestMade m_bestFault m_isHere o.2.1 o.2.2.1 o.2.2.2.1 o.2.2.2.2) := by
  refine CT_of (cc := cX8_isPicture) (maxL := 4) (ret := (some .boolean)) 3 (by decide +kernel) rfl rfl (cat_ok rfl) (fun X hX hR hN => ?_)
  have hX : Ok G X cX8_isPicture RX8 wsX8_isPicture 4 rmX8_isPicture := hX
  have hX8 : ∀ w ∈ wsX80, w ∈ wsX8_isPicture := lX8_isPicture_X8
  unfold mX8_isPicture at hm
  refine w_aload_n (pc := 0) hX dX8_isPicture_0 rfl rfl ?_
  refine w_iconst (pc := 1) hX dX8_isPicture_1 ic_0 ?_
  refine pf_X8_wide (pc := 2) hX dX8_isPicture_2 hX8 (List.mem_of_getElem? (i := 1) rfl) 0 rfl rfl ?_
  refine w_aload_n (pc := 5) hX dX8_isPicture_5 rfl rfl ?_
  refine w_iconst (pc := 6) hX dX8_isPicture_6 ic_1 ?_
  refine pf_X8_high (pc := 7) hX dX8_isPicture_7 hX8 (List.mem_of_getElem? (i := 2) rfl) 0 rfl rfl ?_
  refine w_iconst (pc := 10) hX dX8_isPicture_10 ic_0 ?_
  refine w_istore_n (pc := 11) hX dX8_isPicture_11 rfl (Nat.le_of_ble_eq_true rfl) ?_
  refine w_iconst (pc := 12) hX dX8_isPicture_12 ic_0 ?_
  refine w_istore_n (pc := 13) hX dX8_isPicture_13 rfl (Nat.le_of_ble_eq_true rfl) ?_
  refine w_jn (T := fun x1 : (Int32 × Int32 × Int32) => WW G X 0 0 (wX8 G a_t m_s m_begun m_kept m_isKept m_past m_states m_text m_length m_far m_queue m_isOn m_steps m_wayCells m_turns m_visits m_wasSo m_bestAway m_bestMade m_bestFault m_isHere m_place m_reason x1.2.1 x1.2.2) [some (.ref (a_t 0)), some (.int x1.1), none, none] 172 []) hm (fun x1 hm => ?_) (fun j2 hj2 hm => ?_)
  ·
    unfold mX8_isPicture_K172 at hm
    refine w_iload_n (pc := 172) hX dX8_isPicture_172 rfl rfl ?_
    refine w_jn (T := fun x3 : Unit => WW G X 0 0 (wX8 G a_t m_s m_begun m_kept m_isKept m_past m_states m_text m_length m_far m_queue m_isOn m_steps m_wayCells m_turns m_visits m_wasSo m_bestAway m_bestMade m_bestFault m_isHere m_place m_reason x1.2.1 x1.2.2) [some (.ref (a_t 0)), none, none, none] 184 []) hm (fun x3 hm => ?_) (fun j4 hj4 hm => ?_)
    ·
      refine w_aload_n (pc := 184) hX dX8_isPicture_184 rfl rfl ?_
      refine w_aload_n (pc := 185) hX dX8_isPicture_185 rfl rfl ?_
      refine gf_X8_length (pc := 186) hX dX8_isPicture_186 hX8 (List.mem_of_getElem? (i := 3) rfl) 0 rfl rfl ?_
      refine w_iconst (pc := 189) hX dX8_isPicture_189 ic_1 ?_
      obtain ⟨r5, hr5, hm⟩ := bnd hm
      refine w_calldi (pc := 190) (ws' := wX8 G a_t m_s m_begun m_kept m_isKept m_past m_states m_text m_length m_far m_queue m_isOn m_steps m_wayCells m_turns m_visits m_wasSo m_bestAway m_bestMade m_bestFault m_isHere r5.2.1 r5.2.2 x1.2.1 x1.2.2) (os := [some 0, some 1, some 2, some 3, some 4, some 5, some 6, some 7, some 8, some 9, some 10, some 11, some 12]) 13 hX [0, 1, 2, 3, 4, 5, 6, 7, 8, 9, 10, 11, 12] (runV (rest := []) hX [0, 1, 2, 3, 4, 5, 6, 7, 8, 9, 10, 11, 12] (ctX8_breaks G a_t m_s m_begun m_kept m_isKept m_past m_states m_text m_length m_far m_queue m_isOn m_steps m_wayCells m_turns m_visits m_wasSo m_bestAway m_bestMade m_bestFault m_isHere m_place m_reason x1.2.1 x1.2.2 m_length (1 : Int32) r5 hr5) dX8_isPicture_190 2 gX8_isPicture_X8_breaks rfl hyX8_breaks ⟨Nat.le_of_ble_eq_true rfl, Nat.le_of_ble_eq_true rfl⟩ 0 rfl rfl rfl rfl (Nat.le_of_ble_eq_true rfl) ⟨Nat.le_of_ble_eq_true rfl, Nat.le_of_ble_eq_true rfl⟩ rfl (by decide +kernel)) rfl rfl rfl (by decide +kernel) rfl ⟨rfl, rfl⟩ ?_
      refine w_zret (pc := 193) hX hR dX8_isPicture_193 hm (fun hm => ?_)
      obtain rfl := som hm
      exact ⟨rfl, rfl⟩
    ·
      refine w_if_eq (pc := 173) (tgt := 184) hX dX8_isPicture_173 (by decide) hm (fun hm => ?_) (fun hm => ?_)
      ·
        exact w_lvs [true, false, false, false] (hj4 () hm)
      ·
        refine w_iload_n (pc := 176) hX dX8_isPicture_176 rfl rfl ?_
        refine w_aload_n (pc := 177) hX dX8_isPicture_177 rfl rfl ?_
        refine gf_X8_wide (pc := 178) hX dX8_isPicture_178 hX8 (List.mem_of_getElem? (i := 1) rfl) 0 rfl rfl ?_
        refine w_icmp_ge (pc := 181) (tgt := 194) hX dX8_isPicture_181 (by decide) hm (fun hm => ?_) (fun hm => ?_)
        ·
          refine w_aload_n (pc := 194) hX dX8_isPicture_194 rfl rfl ?_
          refine gf_X8_wide (pc := 195) hX dX8_isPicture_195 hX8 (List.mem_of_getElem? (i := 1) rfl) 0 rfl rfl ?_
          refine w_iconst (pc := 198) hX dX8_isPicture_198 ic_1 ?_
          refine w_jn (T := fun x6 : (Int32 × Int32 × Int32) => WW G X 0 0 (wX8 G a_t m_s m_begun m_kept m_isKept m_past m_states m_text m_length m_far m_queue m_isOn m_steps m_wayCells m_turns m_visits m_wasSo m_bestAway m_bestMade m_bestFault m_isHere x6.2.1 x6.2.2 x1.2.1 x1.2.2) [none, none, none, none] 227 [.int x6.1]) hm (fun x6 hm => ?_) (fun j7 hj7 hm => ?_)
          ·
            refine w_zret (pc := 227) hX hR dX8_isPicture_227 hm (fun hm => ?_)
            obtain rfl := som hm
            exact ⟨rfl, rfl⟩
          ·
            refine w_jn (T := fun x8 : (Int32 × Int32) => WW G X 0 0 (wX8 G a_t m_s m_begun m_kept m_isKept m_past m_states m_text m_length m_far m_queue m_isOn m_steps m_wayCells m_turns m_visits m_wasSo m_bestAway m_bestMade m_bestFault m_isHere x8.1 x8.2 x1.2.1 x1.2.2) [none, none, none, none] 222 []) hm (fun x8 hm => ?_) (fun j9 hj9 hm => ?_)
            ·
              refine w_iconst (pc := 222) hX dX8_isPicture_222 ic_1 ?_
              refine w_goto (pc := 223) (tgt := 227) hX dX8_isPicture_223 (by decide) ?_
              exact w_lvs [false, false, false, false] (hj7 ((1 : Int32), x8.1, x8.2) hm)
            ·
              refine w_jn (T := fun x10 : Unit => WW G X 0 0 (wX8 G a_t m_s m_begun m_kept m_isKept m_past m_states m_text m_length m_far m_queue m_isOn m_steps m_wayCells m_turns m_visits m_wasSo m_bestAway m_bestMade m_bestFault m_isHere m_place m_reason x1.2.1 x1.2.2) [some (.ref (a_t 0)), none, none, none] 210 []) hm (fun x10 hm => ?_) (fun j11 hj11 hm => ?_)
              ·
                refine w_aload_n (pc := 210) hX dX8_isPicture_210 rfl rfl ?_
                refine w_aload_n (pc := 211) hX dX8_isPicture_211 rfl rfl ?_
                refine gf_X8_length (pc := 212) hX dX8_isPicture_212 hX8 (List.mem_of_getElem? (i := 3) rfl) 0 rfl rfl ?_
                refine w_iconst (pc := 215) hX dX8_isPicture_215 ic_4 ?_
                obtain ⟨r12, hr12, hm⟩ := bnd hm
                refine w_calldi (pc := 216) (ws' := wX8 G a_t m_s m_begun m_kept m_isKept m_past m_states m_text m_length m_far m_queue m_isOn m_steps m_wayCells m_turns m_visits m_wasSo m_bestAway m_bestMade m_bestFault m_isHere r12.2.1 r12.2.2 x1.2.1 x1.2.2) (os := [some 0, some 1, some 2, some 3, some 4, some 5, some 6, some 7, some 8, some 9, some 10, some 11, some 12]) 13 hX [0, 1, 2, 3, 4, 5, 6, 7, 8, 9, 10, 11, 12] (runV (rest := []) hX [0, 1, 2, 3, 4, 5, 6, 7, 8, 9, 10, 11, 12] (ctX8_breaks G a_t m_s m_begun m_kept m_isKept m_past m_states m_text m_length m_far m_queue m_isOn m_steps m_wayCells m_turns m_visits m_wasSo m_bestAway m_bestMade m_bestFault m_isHere m_place m_reason x1.2.1 x1.2.2 m_length (4 : Int32) r12 hr12) dX8_isPicture_216 2 gX8_isPicture_X8_breaks rfl hyX8_breaks ⟨Nat.le_of_ble_eq_true rfl, Nat.le_of_ble_eq_true rfl⟩ 0 rfl rfl rfl rfl (Nat.le_of_ble_eq_true rfl) ⟨Nat.le_of_ble_eq_true rfl, Nat.le_of_ble_eq_true rfl⟩ rfl (by decide +kernel)) rfl rfl rfl (by decide +kernel) rfl ⟨rfl, rfl⟩ ?_
                refine w_if_eq (pc := 219) (tgt := 226) hX dX8_isPicture_219 (by decide) hm (fun hm => ?_) (fun hm => ?_)
                ·
                  refine w_iconst (pc := 226) hX dX8_isPicture_226 ic_0 ?_
                  exact w_lvs [false, false, false, false] (hj7 ((0 : Int32), r12.2.1, r12.2.2) hm)
                ·
                  exact w_lvs [false, false, false, false] (hj9 (r12.2.1, r12.2.2) hm)
              ·
                refine w_icmp_le (pc := 199) (tgt := 210) hX dX8_isPicture_199 (by decide) hm (fun hm => ?_) (fun hm => ?_)
                ·
                  exact w_lvs [true, false, false, false] (hj11 () hm)
                ·
                  refine w_aload_n (pc := 202) hX dX8_isPicture_202 rfl rfl ?_
                  refine gf_X8_high (pc := 203) hX dX8_isPicture_203 hX8 (List.mem_of_getElem? (i := 2) rfl) 0 rfl rfl ?_
                  refine w_iconst (pc := 206) hX dX8_isPicture_206 ic_1 ?_
                  refine w_icmp_gt (pc := 207) (tgt := 222) hX dX8_isPicture_207 (by decide) hm (fun hm => ?_) (fun hm => ?_)
                  ·
                    exact w_lvs [false, false, false, false] (hj9 (m_place, m_reason) hm)
                  ·
                    exact w_lvs [true, false, false, false] (hj11 () hm)
        ·
          exact w_lvs [true, false, false, false] (hj4 () hm)
  ·
    refine w_jn (T := fun x13 : (Int32 × Int32 × Int32) => WW G X 0 0 (wX8 G a_t m_s m_begun m_kept m_isKept m_past m_states m_text m_length m_far m_queue m_isOn m_steps m_wayCells m_turns m_visits m_wasSo m_bestAway m_bestMade m_bestFault m_isHere m_place m_reason x13.2.1 x13.2.2) [some (.ref (a_t 0)), none, some (.int x13.1), none] 159 []) hm (fun x13 hm => ?_) (fun j14 hj14 hm => ?_)
    ·
      unfold mX8_isPicture_K159 at hm
      refine w_aload_n (pc := 159) hX dX8_isPicture_159 rfl rfl ?_
      refine w_iload_n (pc := 160) hX dX8_isPicture_160 rfl rfl ?_
      refine w_iconst (pc := 161) hX dX8_isPicture_161 ic_1 ?_
      obtain ⟨r15, hr15, hm⟩ := bnd hm
      refine w_calldi (pc := 162) (ws' := wX8 G a_t m_s m_begun m_kept m_isKept m_past m_states m_text m_length m_far m_queue m_isOn m_steps m_wayCells m_turns m_visits m_wasSo m_bestAway m_bestMade m_bestFault m_isHere r15.2.1 r15.2.2 x13.2.1 x13.2.2) (os := [some 0, some 1, some 2, some 3, some 4, some 5, some 6, some 7, some 8, some 9, some 10, some 11, some 12]) 13 hX [0, 1, 2, 3, 4, 5, 6, 7, 8, 9, 10, 11, 12] (runV (rest := []) hX [0, 1, 2, 3, 4, 5, 6, 7, 8, 9, 10, 11, 12] (ctX8_breaks G a_t m_s m_begun m_kept m_isKept m_past m_states m_text m_length m_far m_queue m_isOn m_steps m_wayCells m_turns m_visits m_wasSo m_bestAway m_bestMade m_bestFault m_isHere m_place m_reason x13.2.1 x13.2.2 x13.1 (1 : Int32) r15 hr15) dX8_isPicture_162 2 gX8_isPicture_X8_breaks rfl hyX8_breaks ⟨Nat.le_of_ble_eq_true rfl, Nat.le_of_ble_eq_true rfl⟩ 0 rfl rfl rfl rfl (Nat.le_of_ble_eq_true rfl) ⟨Nat.le_of_ble_eq_true rfl, Nat.le_of_ble_eq_true rfl⟩ rfl (by decide +kernel)) rfl rfl rfl (by decide +kernel) rfl ⟨rfl, rfl⟩ ?_
      refine w_zret (pc := 165) hX hR dX8_isPicture_165 hm (fun hm => ?_)
      obtain rfl := som hm
      exact ⟨rfl, rfl⟩
    ·
      refine w_jn (T := fun x16 : (Int32 × Int32 × Int32) => WW G X 0 0 (wX8 G a_t m_s m_begun m_kept m_isKept m_past m_states m_text m_length m_far m_queue m_isOn m_steps m_wayCells m_turns m_visits m_wasSo m_bestAway m_bestMade m_bestFault m_isHere m_place m_reason x16.2.1 x16.2.2) [some (.ref (a_t 0)), none, some (.int x16.1), none] 137 []) hm (fun x16 hm => ?_) (fun j17 hj17 hm => ?_)
      ·
        unfold mX8_isPicture_K137 at hm
        refine w_aload_n (pc := 137) hX dX8_isPicture_137 rfl rfl ?_
        refine w_iload_n (pc := 138) hX dX8_isPicture_138 rfl rfl ?_
        refine w_iconst (pc := 139) hX dX8_isPicture_139 ic_3 ?_
        obtain ⟨r18, hr18, hm⟩ := bnd hm
        refine w_calldi (pc := 140) (ws' := wX8 G a_t m_s m_begun m_kept m_isKept m_past m_states m_text m_length m_far m_queue m_isOn m_steps m_wayCells m_turns m_visits m_wasSo m_bestAway m_bestMade m_bestFault m_isHere r18.2.1 r18.2.2 x16.2.1 x16.2.2) (os := [some 0, some 1, some 2, some 3, some 4, some 5, some 6, some 7, some 8, some 9, some 10, some 11, some 12]) 13 hX [0, 1, 2, 3, 4, 5, 6, 7, 8, 9, 10, 11, 12] (runV (rest := []) hX [0, 1, 2, 3, 4, 5, 6, 7, 8, 9, 10, 11, 12] (ctX8_breaks G a_t m_s m_begun m_kept m_isKept m_past m_states m_text m_length m_far m_queue m_isOn m_steps m_wayCells m_turns m_visits m_wasSo m_bestAway m_bestMade m_bestFault m_isHere m_place m_reason x16.2.1 x16.2.2 x16.1 (3 : Int32) r18 hr18) dX8_isPicture_140 2 gX8_isPicture_X8_breaks rfl hyX8_breaks ⟨Nat.le_of_ble_eq_true rfl, Nat.le_of_ble_eq_true rfl⟩ 0 rfl rfl rfl rfl (Nat.le_of_ble_eq_true rfl) ⟨Nat.le_of_ble_eq_true rfl, Nat.le_of_ble_eq_true rfl⟩ rfl (by decide +kernel)) rfl rfl rfl (by decide +kernel) rfl ⟨rfl, rfl⟩ ?_
        refine w_zret (pc := 143) hX hR dX8_isPicture_143 hm (fun hm => ?_)
        obtain rfl := som hm
        exact ⟨rfl, rfl⟩
      ·
        refine w_jn (T := fun x19 : (Int32 × Int32 × Int32) => WW G X 0 0 (wX8 G a_t m_s m_begun m_kept m_isKept m_past m_states m_text m_length m_far m_queue m_isOn m_steps m_wayCells m_turns m_visits m_wasSo m_bestAway m_bestMade m_bestFault m_isHere m_place m_reason x19.2.1 x19.2.2) [some (.ref (a_t 0)), none, some (.int x19.1), none] 77 []) hm (fun x19 hm => ?_) (fun j20 hj20 hm => ?_)
        ·
          unfold mX8_isPicture_K77 at hm
          refine w_aload_n (pc := 77) hX dX8_isPicture_77 rfl rfl ?_
          refine w_iload_n (pc := 78) hX dX8_isPicture_78 rfl rfl ?_
          refine w_iconst (pc := 79) hX dX8_isPicture_79 ic_1 ?_
          obtain ⟨r21, hr21, hm⟩ := bnd hm
          refine w_calldi (pc := 80) (ws' := wX8 G a_t m_s m_begun m_kept m_isKept m_past m_states m_text m_length m_far m_queue m_isOn m_steps m_wayCells m_turns m_visits m_wasSo m_bestAway m_bestMade m_bestFault m_isHere r21.2.1 r21.2.2 x19.2.1 x19.2.2) (os := [some 0, some 1, some 2, some 3, some 4, some 5, some 6, some 7, some 8, some 9, some 10, some 11, some 12]) 13 hX [0, 1, 2, 3, 4, 5, 6, 7, 8, 9, 10, 11, 12] (runV (rest := []) hX [0, 1, 2, 3, 4, 5, 6, 7, 8, 9, 10, 11, 12] (ctX8_breaks G a_t m_s m_begun m_kept m_isKept m_past m_states m_text m_length m_far m_queue m_isOn m_steps m_wayCells m_turns m_visits m_wasSo m_bestAway m_bestMade m_bestFault m_isHere m_place m_reason x19.2.1 x19.2.2 x19.1 (1 : Int32) r21 hr21) dX8_isPicture_80 2 gX8_isPicture_X8_breaks rfl hyX8_breaks ⟨Nat.le_of_ble_eq_true rfl, Nat.le_of_ble_eq_true rfl⟩ 0 rfl rfl rfl rfl (Nat.le_of_ble_eq_true rfl) ⟨Nat.le_of_ble_eq_true rfl, Nat.le_of_ble_eq_true rfl⟩ rfl (by decide +kernel)) rfl rfl rfl (by decide +kernel) rfl ⟨rfl, rfl⟩ ?_
          refine w_zret (pc := 83) hX hR dX8_isPicture_83 hm (fun hm => ?_)
          obtain rfl := som hm
          exact ⟨rfl, rfl⟩
        ·
          refine w_jn (T := fun x22 : (Int32 × Int32 × Int32) => WW G X 0 0 (wX8 G a_t m_s m_begun m_kept m_isKept m_past m_states m_text m_length m_far m_queue m_isOn m_steps m_wayCells m_turns m_visits m_wasSo m_bestAway m_bestMade m_bestFault m_isHere m_place m_reason x22.2.1 x22.2.2) [some (.ref (a_t 0)), none, some (.int x22.1), none] 54 []) hm (fun x22 hm => ?_) (fun j23 hj23 hm => ?_)
          ·
            unfold mX8_isPicture_K54 at hm
            refine w_aload_n (pc := 54) hX dX8_isPicture_54 rfl rfl ?_
            refine w_iload_n (pc := 55) hX dX8_isPicture_55 rfl rfl ?_
            refine w_iconst (pc := 56) hX dX8_isPicture_56 ic_2 ?_
            obtain ⟨r24, hr24, hm⟩ := bnd hm
            refine w_calldi (pc := 57) (ws' := wX8 G a_t m_s m_begun m_kept m_isKept m_past m_states m_text m_length m_far m_queue m_isOn m_steps m_wayCells m_turns m_visits m_wasSo m_bestAway m_bestMade m_bestFault m_isHere r24.2.1 r24.2.2 x22.2.1 x22.2.2) (os := [some 0, some 1, some 2, some 3, some 4, some 5, some 6, some 7, some 8, some 9, some 10, some 11, some 12]) 13 hX [0, 1, 2, 3, 4, 5, 6, 7, 8, 9, 10, 11, 12] (runV (rest := []) hX [0, 1, 2, 3, 4, 5, 6, 7, 8, 9, 10, 11, 12] (ctX8_breaks G a_t m_s m_begun m_kept m_isKept m_past m_states m_text m_length m_far m_queue m_isOn m_steps m_wayCells m_turns m_visits m_wasSo m_bestAway m_bestMade m_bestFault m_isHere m_place m_reason x22.2.1 x22.2.2 x22.1 (2 : Int32) r24 hr24) dX8_isPicture_57 2 gX8_isPicture_X8_breaks rfl hyX8_breaks ⟨Nat.le_of_ble_eq_true rfl, Nat.le_of_ble_eq_true rfl⟩ 0 rfl rfl rfl rfl (Nat.le_of_ble_eq_true rfl) ⟨Nat.le_of_ble_eq_true rfl, Nat.le_of_ble_eq_true rfl⟩ rfl (by decide +kernel)) rfl rfl rfl (by decide +kernel) rfl ⟨rfl, rfl⟩ ?_
            refine w_zret (pc := 60) hX hR dX8_isPicture_60 hm (fun hm => ?_)
            obtain rfl := som hm
            exact ⟨rfl, rfl⟩
          ·
            refine w_lvs [true, true, true, false] ?_
            refine lpr_ind (T := fun x25 : (Int32 × Int32 × Int32 × Int32) => WW G X 0 0 (wX8 G a_t m_s m_begun m_kept m_isKept m_past m_states m_text m_length m_far m_queue m_isOn m_steps m_wayCells m_turns m_visits m_wasSo m_bestAway m_bestMade m_bestFault m_isHere m_place m_reason x25.2.2.1 x25.2.2.2) [some (.ref (a_t 0)), some (.int x25.1), some (.int x25.2.1), none] 14 []) (fun self26 hself26 x25 hm => ?_) F ((0 : Int32), (0 : Int32), (0 : Int32), (1 : Int32)) hm
            unfold mX8_isPicture_L14 at hm
            refine w_iload_n (pc := 14) hX dX8_isPicture_14 rfl rfl ?_
            refine w_aload_n (pc := 15) hX dX8_isPicture_15 rfl rfl ?_
            refine gf_X8_length (pc := 16) hX dX8_isPicture_16 hX8 (List.mem_of_getElem? (i := 3) rfl) 0 rfl rfl ?_
            refine w_icmp_ge (pc := 19) (tgt := 172) hX dX8_isPicture_19 (by decide) hm (fun hm => ?_) (fun hm => ?_)
            ·
              exact w_lvs [true, true, false, false] (hj2 (x25.1, x25.2.2.1, x25.2.2.2) hm)
            ·
              refine w_aload_n (pc := 22) hX dX8_isPicture_22 rfl rfl ?_
              refine gf_X8_text (pc := 23) hX dX8_isPicture_23 hX8 (List.mem_of_getElem? (i := 4) rfl) 0 rfl rfl ?_
              refine w_iload_n (pc := 26) hX dX8_isPicture_26 rfl rfl ?_
              refine w_iald (pc := 27) hX dX8_isPicture_27 5 rfl hm (fun hm => ?_)
              refine w_istore_n (pc := 28) hX dX8_isPicture_28 rfl (Nat.le_of_ble_eq_true rfl) ?_
              refine w_iload_n (pc := 29) hX dX8_isPicture_29 rfl rfl ?_
              refine w_bipush (pc := 30) hX dX8_isPicture_30 bp_48 ?_
              refine w_bipush (pc := 32) hX dX8_isPicture_32 bp_57 ?_
              obtain ⟨r27, hr27, hm⟩ := bnd hm
              refine w_callpi (pc := 34) hX [] (runS (rest := []) hX [] (ctX8_in G (m_text x25.2.1.toNatClampNeg) (48 : Int32) (57 : Int32) r27 hr27) dX8_isPicture_34 3 gX8_isPicture_X8_in rfl hyX8_in.2 ⟨Nat.le_of_ble_eq_true rfl, Nat.le_of_ble_eq_true rfl⟩ rfl rfl (Nat.le_of_ble_eq_true rfl) ⟨Nat.le_of_ble_eq_true rfl, Nat.le_of_ble_eq_true rfl⟩ rfl (by decide +kernel)) rfl ⟨rfl, rfl⟩ ?_
              refine w_jn (T := fun x28 : (Int32 × Int32 × Int32) => WW G X 0 0 (wX8 G a_t m_s m_begun m_kept m_isKept m_past m_states m_text m_length m_far m_queue m_isOn m_steps m_wayCells m_turns m_visits m_wasSo m_bestAway m_bestMade m_bestFault m_isHere m_place m_reason x28.2.1 x28.2.2) [some (.ref (a_t 0)), some (.int x28.1), some (.int x25.2.1), none] 166 []) hm (fun x28 hm => ?_) (fun j29 hj29 hm => ?_)
              ·
                refine w_iinc (pc := 166) hX dX8_isPicture_166 rfl (Nat.le_of_ble_eq_true rfl) ic_1 ?_
                refine w_goto (pc := 169) (tgt := 14) hX dX8_isPicture_169 (by decide) ?_
                exact w_lvs [true, true, true, false] (hself26 (x28.1, x25.2.1 + (1 : Int32), x28.2.1, x28.2.2) hm)
              ·
                refine w_if_eq (pc := 37) (tgt := 110) hX dX8_isPicture_37 (by decide) hm (fun hm => ?_) (fun hm => ?_)
                ·
                  refine w_iload_n (pc := 110) hX dX8_isPicture_110 rfl rfl ?_
                  refine w_bipush (pc := 111) hX dX8_isPicture_111 bp_47 ?_
                  refine w_icmp_ne (pc := 113) (tgt := 159) hX dX8_isPicture_113 (by decide) hm (fun hm => ?_) (fun hm => ?_)
                  ·
                    exact w_lvs [true, false, true, false] (hj14 (x25.2.1, x25.2.2.1, x25.2.2.2) hm)
                  ·
                    refine w_iload_n (pc := 116) hX dX8_isPicture_116 rfl rfl ?_
                    refine w_if_le (pc := 117) (tgt := 159) hX dX8_isPicture_117 (by decide) hm (fun hm => ?_) (fun hm => ?_)
                    ·
                      exact w_lvs [true, false, true, false] (hj14 (x25.2.1, x25.2.2.1, x25.2.2.2) hm)
                    ·
                      refine w_iload_n (pc := 120) hX dX8_isPicture_120 rfl rfl ?_
                      refine w_aload_n (pc := 121) hX dX8_isPicture_121 rfl rfl ?_
                      refine gf_X8_wide (pc := 122) hX dX8_isPicture_122 hX8 (List.mem_of_getElem? (i := 1) rfl) 0 rfl rfl ?_
                      refine w_icmp_ne (pc := 125) (tgt := 159) hX dX8_isPicture_125 (by decide) hm (fun hm => ?_) (fun hm => ?_)
                      ·
                        exact w_lvs [true, false, true, false] (hj14 (x25.2.1, x25.2.2.1, x25.2.2.2) hm)
                      ·
                        refine w_aload_n (pc := 128) hX dX8_isPicture_128 rfl rfl ?_
                        refine gf_X8_high (pc := 129) hX dX8_isPicture_129 hX8 (List.mem_of_getElem? (i := 2) rfl) 0 rfl rfl ?_
                        refine w_bipush (pc := 132) hX dX8_isPicture_132 bp_6 ?_
                        refine w_icmp_ne (pc := 134) (tgt := 144) hX dX8_isPicture_134 (by decide) hm (fun hm => ?_) (fun hm => ?_)
                        ·
                          refine w_aload_n (pc := 144) hX dX8_isPicture_144 rfl rfl ?_
                          refine w_dup (pc := 145) hX dX8_isPicture_145 rfl ?_
                          refine gf_X8_high (pc := 146) hX dX8_isPicture_146 hX8 (List.mem_of_getElem? (i := 2) rfl) 0 rfl rfl ?_
                          refine w_iconst (pc := 149) hX dX8_isPicture_149 ic_1 ?_
                          refine w_iadd (pc := 150) hX dX8_isPicture_150 ?_
                          refine pf_X8_high (pc := 151) hX dX8_isPicture_151 hX8 (List.mem_of_getElem? (i := 2) rfl) 0 rfl rfl ?_
                          refine w_iconst (pc := 154) hX dX8_isPicture_154 ic_0 ?_
                          refine w_istore_n (pc := 155) hX dX8_isPicture_155 rfl (Nat.le_of_ble_eq_true rfl) ?_
                          refine w_goto (pc := 156) (tgt := 166) hX dX8_isPicture_156 (by decide) ?_
                          exact w_lvs [true, true, true, false] (hj29 ((0 : Int32), x25.2.2.1, x25.2.2.2 + (1 : Int32)) hm)
                        ·
                          exact w_lvs [true, false, true, false] (hj17 (x25.2.1, x25.2.2.1, x25.2.2.2) hm)
                ·
                  refine w_aload_n (pc := 40) hX dX8_isPicture_40 rfl rfl ?_
                  refine gf_X8_high (pc := 41) hX dX8_isPicture_41 hX8 (List.mem_of_getElem? (i := 2) rfl) 0 rfl rfl ?_
                  refine w_iconst (pc := 44) hX dX8_isPicture_44 ic_1 ?_
                  refine w_jn (T := fun x30 : Unit => WW G X 0 0 (wX8 G a_t m_s m_begun m_kept m_isKept m_past m_states m_text m_length m_far m_queue m_isOn m_steps m_wayCells m_turns m_visits m_wasSo m_bestAway m_bestMade m_bestFault m_isHere m_place m_reason x25.2.2.1 x25.2.2.2) [some (.ref (a_t 0)), some (.int x25.1), some (.int x25.2.1), none] 61 []) hm (fun x30 hm => ?_) (fun j31 hj31 hm => ?_)
                  ·
                    refine w_aload_n (pc := 61) hX dX8_isPicture_61 rfl rfl ?_
                    refine gf_X8_high (pc := 62) hX dX8_isPicture_62 hX8 (List.mem_of_getElem? (i := 2) rfl) 0 rfl rfl ?_
                    refine w_iconst (pc := 65) hX dX8_isPicture_65 ic_1 ?_
                    refine w_jn (T := fun x32 : Unit => WW G X 0 0 (wX8 G a_t m_s m_begun m_kept m_isKept m_past m_states m_text m_length m_far m_queue m_isOn m_steps m_wayCells m_turns m_visits m_wasSo m_bestAway m_bestMade m_bestFault m_isHere m_place m_reason x25.2.2.1 x25.2.2.2) [some (.ref (a_t 0)), some (.int x25.1), some (.int x25.2.1), none] 84 []) hm (fun x32 hm => ?_) (fun j33 hj33 hm => ?_)
                    ·
                      refine w_iinc (pc := 84) hX dX8_isPicture_84 rfl (Nat.le_of_ble_eq_true rfl) ic_1 ?_
                      refine w_aload_n (pc := 87) hX dX8_isPicture_87 rfl rfl ?_
                      refine w_aload_n (pc := 88) hX dX8_isPicture_88 rfl rfl ?_
                      refine gf_X8_high (pc := 89) hX dX8_isPicture_89 hX8 (List.mem_of_getElem? (i := 2) rfl) 0 rfl rfl ?_
                      refine w_iconst (pc := 92) hX dX8_isPicture_92 ic_1 ?_
                      refine w_jn (T := fun x34 : Int32 => WW G X 0 0 (wX8 G a_t m_s m_begun m_kept m_isKept m_past m_states m_text m_length m_far m_queue m_isOn m_steps m_wayCells m_turns m_visits m_wasSo m_bestAway m_bestMade m_bestFault m_isHere m_place m_reason x25.2.2.1 x25.2.2.2) [some (.ref (a_t 0)), some (.int (x25.1 + (1 : Int32))), some (.int x25.2.1), none] 104 [.int x34, .ref (a_t 0)]) hm (fun x34 hm => ?_) (fun j35 hj35 hm => ?_)
                      ·
                        refine pf_X8_wide (pc := 104) hX dX8_isPicture_104 hX8 (List.mem_of_getElem? (i := 1) rfl) 0 rfl rfl ?_
                        refine w_goto (pc := 107) (tgt := 166) hX dX8_isPicture_107 (by decide) ?_
                        exact w_lvs [true, true, true, false] (hj29 (x25.1 + (1 : Int32), x34, x25.2.2.2) hm)
                      ·
                        refine w_icmp_ne (pc := 93) (tgt := 100) hX dX8_isPicture_93 (by decide) hm (fun hm => ?_) (fun hm => ?_)
                        ·
                          refine w_aload_n (pc := 100) hX dX8_isPicture_100 rfl rfl ?_
                          refine gf_X8_wide (pc := 101) hX dX8_isPicture_101 hX8 (List.mem_of_getElem? (i := 1) rfl) 0 rfl rfl ?_
                          exact w_lvs [true, true, true, false] (hj35 x25.2.2.1 hm)
                        ·
                          refine w_iload_n (pc := 96) hX dX8_isPicture_96 rfl rfl ?_
                          refine w_goto (pc := 97) (tgt := 104) hX dX8_isPicture_97 (by decide) ?_
                          exact w_lvs [true, true, true, false] (hj35 (x25.1 + (1 : Int32)) hm)
                    ·
                      refine w_icmp_le (pc := 66) (tgt := 84) hX dX8_isPicture_66 (by decide) hm (fun hm => ?_) (fun hm => ?_)
                      ·
                        exact w_lvs [true, true, true, false] (hj33 () hm)
                      ·
                        refine w_iload_n (pc := 69) hX dX8_isPicture_69 rfl rfl ?_
                        refine w_aload_n (pc := 70) hX dX8_isPicture_70 rfl rfl ?_
                        refine gf_X8_wide (pc := 71) hX dX8_isPicture_71 hX8 (List.mem_of_getElem? (i := 1) rfl) 0 rfl rfl ?_
                        refine w_icmp_ne (pc := 74) (tgt := 84) hX dX8_isPicture_74 (by decide) hm (fun hm => ?_) (fun hm => ?_)
                        ·
                          exact w_lvs [true, true, true, false] (hj33 () hm)
                        ·
                          exact w_lvs [true, false, true, false] (hj20 (x25.2.1, x25.2.2.1, x25.2.2.2) hm)
                  ·
                    refine w_icmp_ne (pc := 45) (tgt := 61) hX dX8_isPicture_45 (by decide) hm (fun hm => ?_) (fun hm => ?_)
                    ·
                      exact w_lvs [true, true, true, false] (hj31 () hm)
                    ·
                      refine w_iload_n (pc := 48) hX dX8_isPicture_48 rfl rfl ?_
                      refine w_bipush (pc := 49) hX dX8_isPicture_49 bp_6 ?_
                      refine w_icmp_ne (pc := 51) (tgt := 61) hX dX8_isPicture_51 (by decide) hm (fun hm => ?_) (fun hm => ?_)
                      ·
                        exact w_lvs [true, true, true, false] (hj31 () hm)
                      ·
                        exact w_lvs [true, false, true, false] (hj23 (x25.2.1, x25.2.2.1, x25.2.2.2) hm)

theorem lX8_fault_X8 : ∀ w ∈ wsX80, w ∈ wsX8_fault := in_at [19, 20, 21, 22, 23, 24, 25, 26, 27, 28, 29, 30, 31, 32, 33, 34, 35, 36, 37, 38, 39, 40, 41, 42] (by decide +kernel)
set_option maxHeartbeats 4000000 in
set_option maxRecDepth 100000 in
theorem ctX8_fault (G : gT) (F : Nat) (a_t : Nat → Nat) (m_s : nF) (m_begun : nF) (m_kept : nF) (m_isKept : Int32) (m_past : nF) (m_states : Int32) (m_text : nF) (m_length : Int32) (m_far : nF) (m_queue : nF) (m_isOn : nF) (m_steps : nF) (m_wayCells : Int32) (m_turns : Int32) (m_visits : nF) (m_wasSo : nF) (m_bestAway : Int32) (m_bestMade : Int32) (m_bestFault : Int32) (m_isHere : nF) (m_place : Int32) (m_reason : Int32) (m_wide : Int32) (m_high : Int32) (g1 : Int32) (o : (Int32 × Int32 × Int32 × Int32 × Int32)) (hm : mX8_fault F m_text m_length m_place m_reason m_wide m_high g1 = some o) : CT G yX8_fault wsX8_fault rmX8_fault [.ref (a_t 0), .int g1] (wX8 G a_t m_s m_begun m_kept m_isKept m_past m_states m_text m_length m_far m_queue m_isOn m_steps m_wayCells m_turns m_visits m_wasSo m_bestAway m_bestMade m_bestFault m_isHere m_place m_reason m_wide m_high) (fun v w => v = some (.int o.1) ∧ w = wX8 G a_t m_s m_begun m_kept m_isKept m_past m_states m_text m_length m_far m_queue m_isOn m_steps m_wayCells m_turns m_visits m_wasSo m_bestAway m_bestMade m_bestFault m_isHere o.2.1 o.2.2.1 o.2.2.2.1 o.2.2.2.2) := by
  refine CT_of (cc := cX8_fault) (maxL := 2) (ret := (some .int)) 0 (by decide +kernel) rfl rfl (cat_ok rfl) (fun X hX hR hN => ?_)
  have hX : Ok G X cX8_fault RX8 wsX8_fault 2 rmX8_fault := hX
  have hX8 : ∀ w ∈ wsX80, w ∈ wsX8_fault := lX8_fault_X8
  unfold mX8_fault at hm
  refine w_iload_n (pc := 0) hX dX8_fault_0 rfl rfl ?_
  refine w_iconst (pc := 1) hX dX8_fault_1 ic_0 ?_
  refine w_iconst (pc := 2) hX dX8_fault_2 ic_1 ?_
  obtain ⟨r1, hr1, hm⟩ := bnd hm
  refine w_callpi (pc := 3) hX [] (runS (rest := []) hX [] (ctX8_in G g1 (0 : Int32) (1 : Int32) r1 hr1) dX8_fault_3 3 gX8_fault_X8_in rfl hyX8_in.2 ⟨Nat.le_of_ble_eq_true rfl, Nat.le_of_ble_eq_true rfl⟩ rfl rfl (Nat.le_of_ble_eq_true rfl) ⟨Nat.le_of_ble_eq_true rfl, Nat.le_of_ble_eq_true rfl⟩ rfl (by decide +kernel)) rfl ⟨rfl, rfl⟩ ?_
  refine w_if_ne (pc := 6) (tgt := 11) hX dX8_fault_6 (by decide) hm (fun hm => ?_) (fun hm => ?_)
  ·
    refine w_aload_n (pc := 11) hX dX8_fault_11 rfl rfl ?_
    obtain ⟨r2, hr2, hm⟩ := bnd hm
    refine w_calldi (pc := 12) (ws' := wX8 G a_t m_s m_begun m_kept m_isKept m_past m_states m_text m_length m_far m_queue m_isOn m_steps m_wayCells m_turns m_visits m_wasSo m_bestAway m_bestMade m_bestFault m_isHere r2.2.1 r2.2.2.1 r2.2.2.2.1 r2.2.2.2.2) (os := [some 0, some 1, some 2, some 3, some 4, some 5, some 6, some 7, some 8, some 9, some 10, some 11, some 12]) 13 hX [0, 1, 2, 3, 4, 5, 6, 7, 8, 9, 10, 11, 12] (runV (rest := []) hX [0, 1, 2, 3, 4, 5, 6, 7, 8, 9, 10, 11, 12] (ctX8_isPicture G F a_t m_s m_begun m_kept m_isKept m_past m_states m_text m_length m_far m_queue m_isOn m_steps m_wayCells m_turns m_visits m_wasSo m_bestAway m_bestMade m_bestFault m_isHere m_place m_reason m_wide m_high r2 hr2) dX8_fault_12 0 gX8_fault_X8_isPicture rfl hyX8_isPicture ⟨Nat.le_of_ble_eq_true rfl, Nat.le_of_ble_eq_true rfl⟩ 0 rfl rfl rfl rfl (Nat.le_of_ble_eq_true rfl) ⟨Nat.le_of_ble_eq_true rfl, Nat.le_of_ble_eq_true rfl⟩ rfl (by decide +kernel)) rfl rfl rfl (by decide +kernel) rfl ⟨rfl, rfl⟩ ?_
    refine w_if_eq (pc := 15) (tgt := 21) hX dX8_fault_15 (by decide) hm (fun hm => ?_) (fun hm => ?_)
    ·
      refine w_iload_n (pc := 21) hX dX8_fault_21 rfl rfl ?_
      refine w_jn (T := fun x3 : Int32 => WW G X 0 0 (wX8 G a_t m_s m_begun m_kept m_isKept m_past m_states m_text m_length m_far m_queue m_isOn m_steps m_wayCells m_turns m_visits m_wasSo m_bestAway m_bestMade m_bestFault m_isHere r2.2.1 r2.2.2.1 r2.2.2.2.1 r2.2.2.2.2) [none, none] 36 [.int x3]) hm (fun x3 hm => ?_) (fun j4 hj4 hm => ?_)
      ·
        obtain rfl := som hm
        exact w_iret (pc := 36) hX hR dX8_fault_36 ⟨rfl, rfl⟩
      ·
        refine w_if_ne (pc := 22) (tgt := 32) hX dX8_fault_22 (by decide) hm (fun hm => ?_) (fun hm => ?_)
        ·
          refine w_aload_n (pc := 32) hX dX8_fault_32 rfl rfl ?_
          refine gf_X8_reason (pc := 33) hX dX8_fault_33 hX8 (List.mem_of_getElem? (i := 2) rfl) 0 rfl rfl ?_
          exact w_lvs [false, false] (hj4 r2.2.2.1 hm)
        ·
          refine w_aload_n (pc := 25) hX dX8_fault_25 rfl rfl ?_
          refine gf_X8_place (pc := 26) hX dX8_fault_26 hX8 (List.mem_of_getElem? (i := 1) rfl) 0 rfl rfl ?_
          refine w_goto (pc := 29) (tgt := 36) hX dX8_fault_29 (by decide) ?_
          exact w_lvs [false, false] (hj4 r2.2.1 hm)
    ·
      refine w_bipush (pc := 18) hX dX8_fault_18 bp_m4 ?_
      obtain rfl := som hm
      exact w_iret (pc := 20) hX hR dX8_fault_20 ⟨rfl, rfl⟩
  ·
    refine w_iconst (pc := 9) hX dX8_fault_9 ic_m1 ?_
    obtain rfl := som hm
    exact w_iret (pc := 10) hX hR dX8_fault_10 ⟨rfl, rfl⟩

theorem lX8_read_X8 : ∀ w ∈ wsX80, w ∈ wsX8_read := in_at [39, 40, 41, 42, 43, 44, 45, 46, 47, 48, 49, 50, 51, 52, 53, 54, 55, 56, 57, 58, 59, 60, 61, 62] (by decide +kernel)
set_option maxHeartbeats 4000000 in
set_option maxRecDepth 100000 in
theorem ctX8_read (G : gT) (F : Nat) (a_t : Nat → Nat) (m_s : nF) (m_begun : nF) (m_kept : nF) (m_isKept : Int32) (m_past : nF) (m_states : Int32) (m_text : nF) (m_length : Int32) (m_far : nF) (m_queue : nF) (m_isOn : nF) (m_steps : nF) (m_wayCells : Int32) (m_turns : Int32) (m_visits : nF) (m_wasSo : nF) (m_bestAway : Int32) (m_bestMade : Int32) (m_bestFault : Int32) (m_isHere : nF) (m_place : Int32) (m_reason : Int32) (m_wide : Int32) (m_high : Int32) (o : (Int32 × nF × nF × nF × Int32 × Int32 × Int32 × Int32 × Int32)) (hm : mX8_read F m_s m_begun m_past m_states m_text m_length m_place m_reason m_wide m_high = some o) : CT G yX8_read wsX8_read rmX8_read [.ref (a_t 0)] (wX8 G a_t m_s m_begun m_kept m_isKept m_past m_states m_text m_length m_far m_queue m_isOn m_steps m_wayCells m_turns m_visits m_wasSo m_bestAway m_bestMade m_bestFault m_isHere m_place m_reason m_wide m_high) (fun v w => v = some (.int o.1) ∧ w = wX8 G a_t o.2.1 o.2.2.1 m_kept m_isKept o.2.2.2.1 o.2.2.2.2.1 m_text m_length m_far m_queue m_isOn m_steps m_wayCells m_turns m_visits m_wasSo m_bestAway m_bestMade m_bestFault m_isHere o.2.2.2.2.2.1 o.2.2.2.2.2.2.1 o.2.2.2.2.2.2.2.1 o.2.2.2.2.2.2.2.2) := by
  refine CT_of (cc := cX8_read) (maxL := 2) (ret := (some .int)) 1 (by decide +kernel) rfl rfl (cat_ok rfl) (fun X hX hR hN => ?_)
  have hX : Ok G X cX8_read RX8 wsX8_read 2 rmX8_read := hX
  have hX8 : ∀ w ∈ wsX80, w ∈ wsX8_read := lX8_read_X8
  unfold mX8_read at hm
  refine w_aload_n (pc := 0) hX dX8_read_0 rfl rfl ?_
  obtain ⟨r1, hr1, hm⟩ := bnd hm
  refine w_calldv (pc := 1) (ws' := wX8 G a_t m_s r1 m_kept m_isKept m_past m_states m_text m_length m_far m_queue m_isOn m_steps m_wayCells m_turns m_visits m_wasSo m_bestAway m_bestMade m_bestFault m_isHere m_place m_reason m_wide m_high) (os := [some 0, some 1, some 2, some 3, some 4, some 5, some 6, some 7, some 8, some 9, some 10, some 11, some 12]) 13 hX [0, 1, 2, 3, 4, 5, 6, 7, 8, 9, 10, 11, 12] (runV (rest := []) hX [0, 1, 2, 3, 4, 5, 6, 7, 8, 9, 10, 11, 12] (ctX8_begins G F a_t m_s m_begun m_kept m_isKept m_past m_states m_text m_length m_far m_queue m_isOn m_steps m_wayCells m_turns m_visits m_wasSo m_bestAway m_bestMade m_bestFault m_isHere m_place m_reason m_wide m_high r1 hr1) dX8_read_1 0 gX8_read_X8_begins rfl hyX8_begins ⟨Nat.le_of_ble_eq_true rfl, Nat.le_of_ble_eq_true rfl⟩ 0 rfl rfl rfl rfl (Nat.le_of_ble_eq_true rfl) ⟨Nat.le_of_ble_eq_true rfl, Nat.le_of_ble_eq_true rfl⟩ rfl (by decide +kernel)) rfl rfl rfl (by decide +kernel) rfl ⟨rfl, rfl⟩ ?_
  refine w_aload_n (pc := 4) hX dX8_read_4 rfl rfl ?_
  obtain ⟨r2, hr2, hm⟩ := bnd hm
  refine w_calldi (pc := 5) (ws' := wX8 G a_t m_s r1 m_kept m_isKept m_past m_states m_text m_length m_far m_queue m_isOn m_steps m_wayCells m_turns m_visits m_wasSo m_bestAway m_bestMade m_bestFault m_isHere r2.2.1 r2.2.2.1 r2.2.2.2.1 r2.2.2.2.2) (os := [some 0, some 1, some 2, some 3, some 4, some 5, some 6, some 7, some 8, some 9, some 10, some 11, some 12]) 13 hX [0, 1, 2, 3, 4, 5, 6, 7, 8, 9, 10, 11, 12] (runV (rest := []) hX [0, 1, 2, 3, 4, 5, 6, 7, 8, 9, 10, 11, 12] (ctX8_isPicture G F a_t m_s r1 m_kept m_isKept m_past m_states m_text m_length m_far m_queue m_isOn m_steps m_wayCells m_turns m_visits m_wasSo m_bestAway m_bestMade m_bestFault m_isHere m_place m_reason m_wide m_high r2 hr2) dX8_read_5 0 gX8_read_X8_isPicture rfl hyX8_isPicture ⟨Nat.le_of_ble_eq_true rfl, Nat.le_of_ble_eq_true rfl⟩ 0 rfl rfl rfl rfl (Nat.le_of_ble_eq_true rfl) ⟨Nat.le_of_ble_eq_true rfl, Nat.le_of_ble_eq_true rfl⟩ rfl (by decide +kernel)) rfl rfl rfl (by decide +kernel) rfl ⟨rfl, rfl⟩ ?_
  refine w_if_ne (pc := 8) (tgt := 14) hX dX8_read_8 (by decide) hm (fun hm => ?_) (fun hm => ?_)
  ·
    refine w_aload_n (pc := 14) hX dX8_read_14 rfl rfl ?_
    refine w_aload_n (pc := 15) hX dX8_read_15 rfl rfl ?_
    refine gf_X8_wide (pc := 16) hX dX8_read_16 hX8 (List.mem_of_getElem? (i := 1) rfl) 0 rfl rfl ?_
    refine w_aload_n (pc := 19) hX dX8_read_19 rfl rfl ?_
    refine gf_X8_high (pc := 20) hX dX8_read_20 hX8 (List.mem_of_getElem? (i := 2) rfl) 0 rfl rfl ?_
    obtain ⟨r3, hr3, hm⟩ := bnd hm
    refine w_calldv (pc := 23) (ws' := wX8 G a_t r3 r1 m_kept m_isKept m_past m_states m_text m_length m_far m_queue m_isOn m_steps m_wayCells m_turns m_visits m_wasSo m_bestAway m_bestMade m_bestFault m_isHere r2.2.1 r2.2.2.1 r2.2.2.2.1 r2.2.2.2.2) (os := [some 0, some 1, some 2, some 3, some 4, some 5, some 6, some 7, some 8, some 9, some 10, some 11, some 12]) 13 hX [0, 1, 2, 3, 4, 5, 6, 7, 8, 9, 10, 11, 12] (runV (rest := []) hX [0, 1, 2, 3, 4, 5, 6, 7, 8, 9, 10, 11, 12] (ctX8_lightens G F a_t m_s r1 m_kept m_isKept m_past m_states m_text m_length m_far m_queue m_isOn m_steps m_wayCells m_turns m_visits m_wasSo m_bestAway m_bestMade m_bestFault m_isHere r2.2.1 r2.2.2.1 r2.2.2.2.1 r2.2.2.2.2 r2.2.2.2.1 r2.2.2.2.2 r3 hr3) dX8_read_23 2 gX8_read_X8_lightens rfl hyX8_lightens ⟨Nat.le_of_ble_eq_true rfl, Nat.le_of_ble_eq_true rfl⟩ 0 rfl rfl rfl rfl (Nat.le_of_ble_eq_true rfl) ⟨Nat.le_of_ble_eq_true rfl, Nat.le_of_ble_eq_true rfl⟩ rfl (by decide +kernel)) rfl rfl rfl (by decide +kernel) rfl ⟨rfl, rfl⟩ ?_
    refine w_iconst (pc := 26) hX dX8_read_26 ic_0 ?_
    refine w_istore_n (pc := 27) hX dX8_read_27 rfl (Nat.le_of_ble_eq_true rfl) ?_
    refine w_jn (T := fun x4 : nF => WW G X 0 0 (wX8 G a_t x4 r1 m_kept m_isKept m_past m_states m_text m_length m_far m_queue m_isOn m_steps m_wayCells m_turns m_visits m_wasSo m_bestAway m_bestMade m_bestFault m_isHere r2.2.1 r2.2.2.1 r2.2.2.2.1 r2.2.2.2.2) [some (.ref (a_t 0)), none] 67 []) hm (fun x4 hm => ?_) (fun j5 hj5 hm => ?_)
    ·
      unfold mX8_read_K67 at hm
      refine w_aload_n (pc := 67) hX dX8_read_67 rfl rfl ?_
      refine w_aload_n (pc := 68) hX dX8_read_68 rfl rfl ?_
      obtain ⟨r6, hr6, hm⟩ := bnd hm
      refine w_callpi (pc := 69) hX [0, 1, 2, 3, 4, 5, 6, 7, 8, 9, 10, 11, 12] (runV (rest := [.ref (a_t 0)]) hX [0, 1, 2, 3, 4, 5, 6, 7, 8, 9, 10, 11, 12] (ctX8_cells G a_t x4 r1 m_kept m_isKept m_past m_states m_text m_length m_far m_queue m_isOn m_steps m_wayCells m_turns m_visits m_wasSo m_bestAway m_bestMade m_bestFault m_isHere r2.2.1 r2.2.2.1 r2.2.2.2.1 r2.2.2.2.2 r6 hr6) dX8_read_69 0 gX8_read_X8_cells rfl hyX8_cells ⟨Nat.le_of_ble_eq_true rfl, Nat.le_of_ble_eq_true rfl⟩ 0 rfl rfl rfl rfl (Nat.le_of_ble_eq_true rfl) ⟨Nat.le_of_ble_eq_true rfl, Nat.le_of_ble_eq_true rfl⟩ rfl (by decide +kernel)) rfl ⟨rfl, rfl⟩ ?_
      obtain ⟨r7, hr7, hm⟩ := bnd hm
      refine w_calldi (pc := 72) (ws' := wX8 G a_t r7.2.1 r1 m_kept m_isKept r7.2.2.1 r7.2.2.2 m_text m_length m_far m_queue m_isOn m_steps m_wayCells m_turns m_visits m_wasSo m_bestAway m_bestMade m_bestFault m_isHere r2.2.1 r2.2.2.1 r2.2.2.2.1 r2.2.2.2.2) (os := [some 0, some 1, some 2, some 3, some 4, some 5, some 6, some 7, some 8, some 9, some 10, some 11, some 12]) 13 hX [0, 1, 2, 3, 4, 5, 6, 7, 8, 9, 10, 11, 12] (runV (rest := []) hX [0, 1, 2, 3, 4, 5, 6, 7, 8, 9, 10, 11, 12] (ctX8_acted G F a_t x4 r1 m_kept m_isKept m_past m_states m_text m_length m_far m_queue m_isOn m_steps m_wayCells m_turns m_visits m_wasSo m_bestAway m_bestMade m_bestFault m_isHere r2.2.1 r2.2.2.1 r2.2.2.2.1 r2.2.2.2.2 r6 r7 hr7) dX8_read_72 1 gX8_read_X8_acted rfl hyX8_acted ⟨Nat.le_of_ble_eq_true rfl, Nat.le_of_ble_eq_true rfl⟩ 0 rfl rfl rfl rfl (Nat.le_of_ble_eq_true rfl) ⟨Nat.le_of_ble_eq_true rfl, Nat.le_of_ble_eq_true rfl⟩ rfl (by decide +kernel)) rfl rfl rfl (by decide +kernel) rfl ⟨rfl, rfl⟩ ?_
      obtain rfl := som hm
      exact w_iret (pc := 75) hX hR dX8_read_75 ⟨rfl, rfl⟩
    ·
      refine w_lvs [true, true] ?_
      refine lpr_ind (T := fun x8 : (Int32 × nF) => WW G X 0 0 (wX8 G a_t x8.2 r1 m_kept m_isKept m_past m_states m_text m_length m_far m_queue m_isOn m_steps m_wayCells m_turns m_visits m_wasSo m_bestAway m_bestMade m_bestFault m_isHere r2.2.1 r2.2.2.1 r2.2.2.2.1 r2.2.2.2.2) [some (.ref (a_t 0)), some (.int x8.1)] 28 []) (fun self9 hself9 x8 hm => ?_) F ((0 : Int32), r3) hm
      unfold mX8_read_L28 at hm
      refine w_iload_n (pc := 28) hX dX8_read_28 rfl rfl ?_
      refine w_aload_n (pc := 29) hX dX8_read_29 rfl rfl ?_
      obtain ⟨r10, hr10, hm⟩ := bnd hm
      refine w_callpi (pc := 30) hX [0, 1, 2, 3, 4, 5, 6, 7, 8, 9, 10, 11, 12] (runV (rest := [.int x8.1]) hX [0, 1, 2, 3, 4, 5, 6, 7, 8, 9, 10, 11, 12] (ctX8_cells G a_t x8.2 r1 m_kept m_isKept m_past m_states m_text m_length m_far m_queue m_isOn m_steps m_wayCells m_turns m_visits m_wasSo m_bestAway m_bestMade m_bestFault m_isHere r2.2.1 r2.2.2.1 r2.2.2.2.1 r2.2.2.2.2 r10 hr10) dX8_read_30 0 gX8_read_X8_cells rfl hyX8_cells ⟨Nat.le_of_ble_eq_true rfl, Nat.le_of_ble_eq_true rfl⟩ 0 rfl rfl rfl rfl (Nat.le_of_ble_eq_true rfl) ⟨Nat.le_of_ble_eq_true rfl, Nat.le_of_ble_eq_true rfl⟩ rfl (by decide +kernel)) rfl ⟨rfl, rfl⟩ ?_
      refine w_icmp_ge (pc := 33) (tgt := 67) hX dX8_read_33 (by decide) hm (fun hm => ?_) (fun hm => ?_)
      ·
        exact w_lvs [true, false] (hj5 x8.2 hm)
      ·
        refine w_aload_n (pc := 36) hX dX8_read_36 rfl rfl ?_
        refine gf_X8_s (pc := 37) hX dX8_read_37 hX8 (List.mem_of_getElem? (i := 3) rfl) 0 rfl rfl ?_
        refine w_bipush (pc := 40) hX dX8_read_40 bp_6 ?_
        refine w_iload_n (pc := 42) hX dX8_read_42 rfl rfl ?_
        refine w_iadd (pc := 43) hX dX8_read_43 ?_
        refine w_aload_n (pc := 44) hX dX8_read_44 rfl rfl ?_
        refine gf_X8_text (pc := 45) hX dX8_read_45 hX8 (List.mem_of_getElem? (i := 4) rfl) 0 rfl rfl ?_
        refine w_iload_n (pc := 48) hX dX8_read_48 rfl rfl ?_
        refine w_iload_n (pc := 49) hX dX8_read_49 rfl rfl ?_
        refine w_aload_n (pc := 50) hX dX8_read_50 rfl rfl ?_
        refine gf_X8_wide (pc := 51) hX dX8_read_51 hX8 (List.mem_of_getElem? (i := 1) rfl) 0 rfl rfl ?_
        refine w_idiv (pc := 54) hX dX8_read_54 hm (fun hm => ?_)
        refine w_iadd (pc := 55) hX dX8_read_55 ?_
        refine w_iald (pc := 56) hX dX8_read_56 5 rfl hm (fun hm => ?_)
        refine w_bipush (pc := 57) hX dX8_read_57 bp_48 ?_
        refine w_isub (pc := 59) hX dX8_read_59 ?_
        refine w_iast (pc := 60) hX dX8_read_60 1 rfl hm (fun hm => ?_)
        refine w_iinc (pc := 61) hX dX8_read_61 rfl (Nat.le_of_ble_eq_true rfl) ic_1 ?_
        refine w_goto (pc := 64) (tgt := 28) hX dX8_read_64 (by decide) ?_
        exact w_lvs [true, true] (hself9 (x8.1 + (1 : Int32), (upd x8.2 ((6 : Int32) + x8.1).toNatClampNeg ((m_text (x8.1 + (x8.1 / r2.2.2.2.1)).toNatClampNeg) - (48 : Int32)))) hm)
  ·
    refine w_bipush (pc := 11) hX dX8_read_11 bp_m2 ?_
    obtain rfl := som hm
    exact w_iret (pc := 13) hX hR dX8_read_13 ⟨rfl, rfl⟩
