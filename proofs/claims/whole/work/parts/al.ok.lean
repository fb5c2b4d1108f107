/-! all methods: their words, their checks -/
def mm_Pw (mi : Nat) : Prop := Jvm.Cond.code (mm_yn mi) (mm_yb mi) (mm_ml mi) (mm_yr mi) ∈ mm_gT
def mm_Pk (mi : Nat) : Prop := ∃ aux, mm_ckM mi aux = true
theorem mm_stp {P : Nat → Prop} {n : Nat} (h : ∀ i, i < n → P i) (hn : P n) : ∀ i, i < n + 1 → P i := fun i hi => by
  by_cases e : i = n
  · rw [e]; exact hn
  · exact h i (by omega)
theorem mm_wA30 : ∀ i, i < 30 → mm_Pw i := mm_stp (mm_stp (mm_stp (mm_stp (mm_stp (mm_stp (mm_stp (mm_stp (mm_stp (mm_stp (mm_stp (mm_stp (mm_stp (mm_stp (mm_stp (mm_stp (mm_stp (mm_stp (mm_stp (mm_stp (mm_stp (mm_stp (mm_stp (mm_stp (mm_stp (mm_stp (mm_stp (mm_stp (mm_stp (mm_stp ((fun i hi => absurd hi (Nat.not_lt_zero i))) (mm_w0)) (mm_w1)) (mm_w2)) (mm_w3)) (mm_w4)) (mm_w5)) (mm_w6)) (mm_w7)) (mm_w8)) (mm_w9)) (mm_w10)) (mm_w11)) (mm_w12)) (mm_w13)) (mm_w14)) (mm_w15)) (mm_w16)) (mm_w17)) (mm_w18)) (mm_w19)) (mm_w20)) (mm_w21)) (mm_w22)) (mm_w23)) (mm_w24)) (mm_w25)) (mm_w26)) (mm_w27)) (mm_w28)) (mm_w29)
theorem mm_wA60 : ∀ i, i < 60 → mm_Pw i := mm_stp (mm_stp (mm_stp (mm_stp (mm_stp (mm_stp (mm_stp (mm_stp (mm_stp (mm_stp (mm_stp (mm_stp (mm_stp (mm_stp (mm_stp (mm_stp (mm_stp (mm_stp (mm_stp (mm_stp (mm_stp (mm_stp (mm_stp (mm_stp (mm_stp (mm_stp (mm_stp (mm_stp (mm_stp (mm_stp (mm_wA30) (mm_w30)) (mm_w31)) (mm_w32)) (mm_w33)) (mm_w34)) (mm_w35)) (mm_w36)) (mm_w37)) (mm_w38)) (mm_w39)) (mm_w40)) (mm_w41)) (mm_w42)) (mm_w43)) (mm_w44)) (mm_w45)) (mm_w46)) (mm_w47)) (mm_w48)) (mm_w49)) (mm_w50)) (mm_w51)) (mm_w52)) (mm_w53)) (mm_w54)) (mm_w55)) (mm_w56)) (mm_w57)) (mm_w58)) (mm_w59)
theorem mm_wA90 : ∀ i, i < 90 → mm_Pw i := mm_stp (mm_stp (mm_stp (mm_stp (mm_stp (mm_stp (mm_stp (mm_stp (mm_stp (mm_stp (mm_stp (mm_stp (mm_stp (mm_stp (mm_stp (mm_stp (mm_stp (mm_stp (mm_stp (mm_stp (mm_stp (mm_stp (mm_stp (mm_stp (mm_stp (mm_stp (mm_stp (mm_stp (mm_stp (mm_stp (mm_wA60) (mm_w60)) (mm_w61)) (mm_w62)) (mm_w63)) (mm_w64)) (mm_w65)) (mm_w66)) (mm_w67)) (mm_w68)) (mm_w69)) (mm_w70)) (mm_w71)) (mm_w72)) (mm_w73)) (mm_w74)) (mm_w75)) (mm_w76)) (mm_w77)) (mm_w78)) (mm_w79)) (mm_w80)) (mm_w81)) (mm_w82)) (mm_w83)) (mm_w84)) (mm_w85)) (mm_w86)) (mm_w87)) (mm_w88)) (mm_w89)
theorem mm_wA120 : ∀ i, i < 120 → mm_Pw i := mm_stp (mm_stp (mm_stp (mm_stp (mm_stp (mm_stp (mm_stp (mm_stp (mm_stp (mm_stp (mm_stp (mm_stp (mm_stp (mm_stp (mm_stp (mm_stp (mm_stp (mm_stp (mm_stp (mm_stp (mm_stp (mm_stp (mm_stp (mm_stp (mm_stp (mm_stp (mm_stp (mm_stp (mm_stp (mm_stp (mm_wA90) (mm_w90)) (mm_w91)) (mm_w92)) (mm_w93)) (mm_w94)) (mm_w95)) (mm_w96)) (mm_w97)) (mm_w98)) (mm_w99)) (mm_w100)) (mm_w101)) (mm_w102)) (mm_w103)) (mm_w104)) (mm_w105)) (mm_w106)) (mm_w107)) (mm_w108)) (mm_w109)) (mm_w110)) (mm_w111)) (mm_w112)) (mm_w113)) (mm_w114)) (mm_w115)) (mm_w116)) (mm_w117)) (mm_w118)) (mm_w119)
theorem mm_wA150 : ∀ i, i < 150 → mm_Pw i := mm_stp (mm_stp (mm_stp (mm_stp (mm_stp (mm_stp (mm_stp (mm_stp (mm_stp (mm_stp (mm_stp (mm_stp (mm_stp (mm_stp (mm_stp (mm_stp (mm_stp (mm_stp (mm_stp (mm_stp (mm_stp (mm_stp (mm_stp (mm_stp (mm_stp (mm_stp (mm_stp (mm_stp (mm_stp (mm_stp (mm_wA120) (mm_w120)) (mm_w121)) (mm_w122)) (mm_w123)) (mm_w124)) (mm_w125)) (mm_w126)) (mm_w127)) (mm_w128)) (mm_w129)) (mm_w130)) (mm_w131)) (mm_w132)) (mm_w133)) (mm_w134)) (mm_w135)) (mm_w136)) (mm_w137)) (mm_w138)) (mm_w139)) (mm_w140)) (mm_w141)) (mm_w142)) (mm_w143)) (mm_w144)) (mm_w145)) (mm_w146)) (mm_w147)) (mm_w148)) (mm_w149)
theorem mm_wA180 : ∀ i, i < 180 → mm_Pw i := mm_stp (mm_stp (mm_stp (mm_stp (mm_stp (mm_stp (mm_stp (mm_stp (mm_stp (mm_stp (mm_stp (mm_stp (mm_stp (mm_stp (mm_stp (mm_stp (mm_stp (mm_stp (mm_stp (mm_stp (mm_stp (mm_stp (mm_stp (mm_stp (mm_stp (mm_stp (mm_stp (mm_stp (mm_stp (mm_stp (mm_wA150) (mm_w150)) (mm_w151)) (mm_w152)) (mm_w153)) (mm_w154)) (mm_w155)) (mm_w156)) (mm_w157)) (mm_w158)) (mm_w159)) (mm_w160)) (mm_w161)) (mm_w162)) (mm_w163)) (mm_w164)) (mm_w165)) (mm_w166)) (mm_w167)) (mm_w168)) (mm_w169)) (mm_w170)) (mm_w171)) (mm_w172)) (mm_w173)) (mm_w174)) (mm_w175)) (mm_w176)) (mm_w177)) (mm_w178)) (mm_w179)
theorem mm_wA210 : ∀ i, i < 210 → mm_Pw i := mm_stp (mm_stp (mm_stp (mm_stp (mm_stp (mm_stp (mm_stp (mm_stp (mm_stp (mm_stp (mm_stp (mm_stp (mm_stp (mm_stp (mm_stp (mm_stp (mm_stp (mm_stp (mm_stp (mm_stp (mm_stp (mm_stp (mm_stp (mm_stp (mm_stp (mm_stp (mm_stp (mm_stp (mm_stp (mm_stp (mm_wA180) (mm_w180)) (mm_w181)) (mm_w182)) (mm_w183)) (mm_w184)) (mm_w185)) (mm_w186)) (mm_w187)) (mm_w188)) (mm_w189)) (mm_w190)) (mm_w191)) (mm_w192)) (mm_w193)) (mm_w194)) (mm_w195)) (mm_w196)) (mm_w197)) (mm_w198)) (mm_w199)) (mm_w200)) (mm_w201)) (mm_w202)) (mm_w203)) (mm_w204)) (mm_w205)) (mm_w206)) (mm_w207)) (mm_w208)) (mm_w209)
theorem mm_wA240 : ∀ i, i < 240 → mm_Pw i := mm_stp (mm_stp (mm_stp (mm_stp (mm_stp (mm_stp (mm_stp (mm_stp (mm_stp (mm_stp (mm_stp (mm_stp (mm_stp (mm_stp (mm_stp (mm_stp (mm_stp (mm_stp (mm_stp (mm_stp (mm_stp (mm_stp (mm_stp (mm_stp (mm_stp (mm_stp (mm_stp (mm_stp (mm_stp (mm_stp (mm_wA210) (mm_w210)) (mm_w211)) (mm_w212)) (mm_w213)) (mm_w214)) (mm_w215)) (mm_w216)) (mm_w217)) (mm_w218)) (mm_w219)) (mm_w220)) (mm_w221)) (mm_w222)) (mm_w223)) (mm_w224)) (mm_w225)) (mm_w226)) (mm_w227)) (mm_w228)) (mm_w229)) (mm_w230)) (mm_w231)) (mm_w232)) (mm_w233)) (mm_w234)) (mm_w235)) (mm_w236)) (mm_w237)) (mm_w238)) (mm_w239)
theorem mm_wA270 : ∀ i, i < 270 → mm_Pw i := mm_stp (mm_stp (mm_stp (mm_stp (mm_stp (mm_stp (mm_stp (mm_stp (mm_stp (mm_stp (mm_stp (mm_stp (mm_stp (mm_stp (mm_stp (mm_stp (mm_stp (mm_stp (mm_stp (mm_stp (mm_stp (mm_stp (mm_stp (mm_stp (mm_stp (mm_stp (mm_stp (mm_stp (mm_stp (mm_stp (mm_wA240) (mm_w240)) (mm_w241)) (mm_w242)) (mm_w243)) (mm_w244)) (mm_w245)) (mm_w246)) (mm_w247)) (mm_w248)) (mm_w249)) (mm_w250)) (mm_w251)) (mm_w252)) (mm_w253)) (mm_w254)) (mm_w255)) (mm_w256)) (mm_w257)) (mm_w258)) (mm_w259)) (mm_w260)) (mm_w261)) (mm_w262)) (mm_w263)) (mm_w264)) (mm_w265)) (mm_w266)) (mm_w267)) (mm_w268)) (mm_w269)
theorem mm_wA293 : ∀ i, i < 293 → mm_Pw i := mm_stp (mm_stp (mm_stp (mm_stp (mm_stp (mm_stp (mm_stp (mm_stp (mm_stp (mm_stp (mm_stp (mm_stp (mm_stp (mm_stp (mm_stp (mm_stp (mm_stp (mm_stp (mm_stp (mm_stp (mm_stp (mm_stp (mm_stp (mm_wA270) (mm_w270)) (mm_w271)) (mm_w272)) (mm_w273)) (mm_w274)) (mm_w275)) (mm_w276)) (mm_w277)) (mm_w278)) (mm_w279)) (mm_w280)) (mm_w281)) (mm_w282)) (mm_w283)) (mm_w284)) (mm_w285)) (mm_w286)) (mm_w287)) (mm_w288)) (mm_w289)) (mm_w290)) (mm_w291)) (mm_w292)
theorem mm_kA30 : ∀ i, i < 30 → mm_Pk i := mm_stp (mm_stp (mm_stp (mm_stp (mm_stp (mm_stp (mm_stp (mm_stp (mm_stp (mm_stp (mm_stp (mm_stp (mm_stp (mm_stp (mm_stp (mm_stp (mm_stp (mm_stp (mm_stp (mm_stp (mm_stp (mm_stp (mm_stp (mm_stp (mm_stp (mm_stp (mm_stp (mm_stp (mm_stp (mm_stp ((fun i hi => absurd hi (Nat.not_lt_zero i))) (⟨_, mm_c0⟩)) (⟨_, mm_c1⟩)) (⟨_, mm_c2⟩)) (⟨_, mm_c3⟩)) (⟨_, mm_c4⟩)) (⟨_, mm_c5⟩)) (⟨_, mm_c6⟩)) (⟨_, mm_c7⟩)) (⟨_, mm_c8⟩)) (⟨_, mm_c9⟩)) (⟨_, mm_c10⟩)) (⟨_, mm_c11⟩)) (⟨_, mm_c12⟩)) (⟨_, mm_c13⟩)) (⟨_, mm_c14⟩)) (⟨_, mm_c15⟩)) (⟨_, mm_c16⟩)) (⟨_, mm_c17⟩)) (⟨_, mm_c18⟩)) (⟨_, mm_c19⟩)) (⟨_, mm_c20⟩)) (⟨_, mm_c21⟩)) (⟨_, mm_c22⟩)) (⟨_, mm_c23⟩)) (⟨_, mm_c24⟩)) (⟨_, mm_c25⟩)) (⟨_, mm_c26⟩)) (⟨_, mm_c27⟩)) (⟨_, mm_c28⟩)) (⟨_, mm_c29⟩)
theorem mm_kA60 : ∀ i, i < 60 → mm_Pk i := mm_stp (mm_stp (mm_stp (mm_stp (mm_stp (mm_stp (mm_stp (mm_stp (mm_stp (mm_stp (mm_stp (mm_stp (mm_stp (mm_stp (mm_stp (mm_stp (mm_stp (mm_stp (mm_stp (mm_stp (mm_stp (mm_stp (mm_stp (mm_stp (mm_stp (mm_stp (mm_stp (mm_stp (mm_stp (mm_stp (mm_kA30) (⟨_, mm_c30⟩)) (⟨_, mm_c31⟩)) (⟨_, mm_c32⟩)) (⟨_, mm_c33⟩)) (⟨_, mm_c34⟩)) (⟨_, mm_c35⟩)) (⟨_, mm_c36⟩)) (⟨_, mm_c37⟩)) (⟨_, mm_c38⟩)) (⟨_, mm_c39⟩)) (⟨_, mm_c40⟩)) (⟨_, mm_c41⟩)) (⟨_, mm_c42⟩)) (⟨_, mm_c43⟩)) (⟨_, mm_c44⟩)) (⟨_, mm_c45⟩)) (⟨_, mm_c46⟩)) (⟨_, mm_c47⟩)) (⟨_, mm_c48⟩)) (⟨_, mm_c49⟩)) (⟨_, mm_c50⟩)) (⟨_, mm_c51⟩)) (⟨_, mm_c52⟩)) (⟨_, mm_c53⟩)) (⟨_, mm_c54⟩)) (⟨_, mm_c55⟩)) (⟨_, mm_c56⟩)) (⟨_, mm_c57⟩)) (⟨_, mm_c58⟩)) (⟨_, mm_c59⟩)
theorem mm_kA90 : ∀ i, i < 90 → mm_Pk i := mm_stp (mm_stp (mm_stp (mm_stp (mm_stp (mm_stp (mm_stp (mm_stp (mm_stp (mm_stp (mm_stp (mm_stp (mm_stp (mm_stp (mm_stp (mm_stp (mm_stp (mm_stp (mm_stp (mm_stp (mm_stp (mm_stp (mm_stp (mm_stp (mm_stp (mm_stp (mm_stp (mm_stp (mm_stp (mm_stp (mm_kA60) (⟨_, mm_c60⟩)) (⟨_, mm_c61⟩)) (⟨_, mm_c62⟩)) (⟨_, mm_c63⟩)) (⟨_, mm_c64⟩)) (⟨_, mm_c65⟩)) (⟨_, mm_c66⟩)) (⟨_, mm_c67⟩)) (⟨_, mm_c68⟩)) (⟨_, mm_c69⟩)) (⟨_, mm_c70⟩)) (⟨_, mm_c71⟩)) (⟨_, mm_c72⟩)) (⟨_, mm_c73⟩)) (⟨_, mm_c74⟩)) (⟨_, mm_c75⟩)) (⟨_, mm_c76⟩)) (⟨_, mm_c77⟩)) (⟨_, mm_c78⟩)) (⟨_, mm_c79⟩)) (⟨_, mm_c80⟩)) (⟨_, mm_c81⟩)) (⟨_, mm_c82⟩)) (⟨_, mm_c83⟩)) (⟨_, mm_c84⟩)) (⟨_, mm_c85⟩)) (⟨_, mm_c86⟩)) (⟨_, mm_c87⟩)) (⟨_, mm_c88⟩)) (⟨_, mm_c89⟩)
theorem mm_kA120 : ∀ i, i < 120 → mm_Pk i := mm_stp (mm_stp (mm_stp (mm_stp (mm_stp (mm_stp (mm_stp (mm_stp (mm_stp (mm_stp (mm_stp (mm_stp (mm_stp (mm_stp (mm_stp (mm_stp (mm_stp (mm_stp (mm_stp (mm_stp (mm_stp (mm_stp (mm_stp (mm_stp (mm_stp (mm_stp (mm_stp (mm_stp (mm_stp (mm_stp (mm_kA90) (⟨_, mm_c90⟩)) (⟨_, mm_c91⟩)) (⟨_, mm_c92⟩)) (⟨_, mm_c93⟩)) (⟨_, mm_c94⟩)) (⟨_, mm_c95⟩)) (⟨_, mm_c96⟩)) (⟨_, mm_c97⟩)) (⟨_, mm_c98⟩)) (⟨_, mm_c99⟩)) (⟨_, mm_c100⟩)) (⟨_, mm_c101⟩)) (⟨_, mm_c102⟩)) (⟨_, mm_c103⟩)) (⟨_, mm_c104⟩)) (⟨_, mm_c105⟩)) (⟨_, mm_c106⟩)) (⟨_, mm_c107⟩)) (⟨_, mm_c108⟩)) (⟨_, mm_c109⟩)) (⟨_, mm_c110⟩)) (⟨_, mm_c111⟩)) (⟨_, mm_c112⟩)) (⟨_, mm_c113⟩)) (⟨_, mm_c114⟩)) (⟨_, mm_c115⟩)) (⟨_, mm_c116⟩)) (⟨_, mm_c117⟩)) (⟨_, mm_c118⟩)) (⟨_, mm_c119⟩)
theorem mm_kA150 : ∀ i, i < 150 → mm_Pk i := mm_stp (mm_stp (mm_stp (mm_stp (mm_stp (mm_stp (mm_stp (mm_stp (mm_stp (mm_stp (mm_stp (mm_stp (mm_stp (mm_stp (mm_stp (mm_stp (mm_stp (mm_stp (mm_stp (mm_stp (mm_stp (mm_stp (mm_stp (mm_stp (mm_stp (mm_stp (mm_stp (mm_stp (mm_stp (mm_stp (mm_kA120) (⟨_, mm_c120⟩)) (⟨_, mm_c121⟩)) (⟨_, mm_c122⟩)) (⟨_, mm_c123⟩)) (⟨_, mm_c124⟩)) (⟨_, mm_c125⟩)) (⟨_, mm_c126⟩)) (⟨_, mm_c127⟩)) (⟨_, mm_c128⟩)) (⟨_, mm_c129⟩)) (⟨_, mm_c130⟩)) (⟨_, mm_c131⟩)) (⟨_, mm_c132⟩)) (⟨_, mm_c133⟩)) (⟨_, mm_c134⟩)) (⟨_, mm_c135⟩)) (⟨_, mm_c136⟩)) (⟨_, mm_c137⟩)) (⟨_, mm_c138⟩)) (⟨_, mm_c139⟩)) (⟨_, mm_c140⟩)) (⟨_, mm_c141⟩)) (⟨_, mm_c142⟩)) (⟨_, mm_c143⟩)) (⟨_, mm_c144⟩)) (⟨_, mm_c145⟩)) (⟨_, mm_c146⟩)) (⟨_, mm_c147⟩)) (⟨_, mm_c148⟩)) (⟨_, mm_c149⟩)
theorem mm_kA180 : ∀ i, i < 180 → mm_Pk i := mm_stp (mm_stp (mm_stp (mm_stp (mm_stp (mm_stp (mm_stp (mm_stp (mm_stp (mm_stp (mm_stp (mm_stp (mm_stp (mm_stp (mm_stp (mm_stp (mm_stp (mm_stp (mm_stp (mm_stp (mm_stp (mm_stp (mm_stp (mm_stp (mm_stp (mm_stp (mm_stp (mm_stp (mm_stp (mm_stp (mm_kA150) (⟨_, mm_c150⟩)) (⟨_, mm_c151⟩)) (⟨_, mm_c152⟩)) (⟨_, mm_c153⟩)) (⟨_, mm_c154⟩)) (⟨_, mm_c155⟩)) (⟨_, mm_c156⟩)) (⟨_, mm_c157⟩)) (⟨_, mm_c158⟩)) (⟨_, mm_c159⟩)) (⟨_, mm_c160⟩)) (⟨_, mm_c161⟩)) (⟨_, mm_c162⟩)) (⟨_, mm_c163⟩)) (⟨_, mm_c164⟩)) (⟨_, mm_c165⟩)) (⟨_, mm_c166⟩)) (⟨_, mm_c167⟩)) (⟨_, mm_c168⟩)) (⟨_, mm_c169⟩)) (⟨_, mm_c170⟩)) (⟨_, mm_c171⟩)) (⟨_, mm_c172⟩)) (⟨_, mm_c173⟩)) (⟨_, mm_c174⟩)) (⟨_, mm_c175⟩)) (⟨_, mm_c176⟩)) (⟨_, mm_c177⟩)) (⟨_, mm_c178⟩)) (⟨_, mm_c179⟩)
theorem mm_kA210 : ∀ i, i < 210 → mm_Pk i := mm_stp (mm_stp (mm_stp (mm_stp (mm_stp (mm_stp (mm_stp (mm_stp (mm_stp (mm_stp (mm_stp (mm_stp (mm_stp (mm_stp (mm_stp (mm_stp (mm_stp (mm_stp (mm_stp (mm_stp (mm_stp (mm_stp (mm_stp (mm_stp (mm_stp (mm_stp (mm_stp (mm_stp (mm_stp (mm_stp (mm_kA180) (⟨_, mm_c180⟩)) (⟨_, mm_c181⟩)) (⟨_, mm_c182⟩)) (⟨_, mm_c183⟩)) (⟨_, mm_c184⟩)) (⟨_, mm_c185⟩)) (⟨_, mm_c186⟩)) (⟨_, mm_c187⟩)) (⟨_, mm_c188⟩)) (⟨_, mm_c189⟩)) (⟨_, mm_c190⟩)) (⟨_, mm_c191⟩)) (⟨_, mm_c192⟩)) (⟨_, mm_c193⟩)) (⟨_, mm_c194⟩)) (⟨_, mm_c195⟩)) (⟨_, mm_c196⟩)) (⟨_, mm_c197⟩)) (⟨_, mm_c198⟩)) (⟨_, mm_c199⟩)) (⟨_, mm_c200⟩)) (⟨_, mm_c201⟩)) (⟨_, mm_c202⟩)) (⟨_, mm_c203⟩)) (⟨_, mm_c204⟩)) (⟨_, mm_c205⟩)) (⟨_, mm_c206⟩)) (⟨_, mm_c207⟩)) (⟨_, mm_c208⟩)) (⟨_, mm_c209⟩)
theorem mm_kA240 : ∀ i, i < 240 → mm_Pk i := mm_stp (mm_stp (mm_stp (mm_stp (mm_stp (mm_stp (mm_stp (mm_stp (mm_stp (mm_stp (mm_stp (mm_stp (mm_stp (mm_stp (mm_stp (mm_stp (mm_stp (mm_stp (mm_stp (mm_stp (mm_stp (mm_stp (mm_stp (mm_stp (mm_stp (mm_stp (mm_stp (mm_stp (mm_stp (mm_stp (mm_kA210) (⟨_, mm_c210⟩)) (⟨_, mm_c211⟩)) (⟨_, mm_c212⟩)) (⟨_, mm_c213⟩)) (⟨_, mm_c214⟩)) (⟨_, mm_c215⟩)) (⟨_, mm_c216⟩)) (⟨_, mm_c217⟩)) (⟨_, mm_c218⟩)) (⟨_, mm_c219⟩)) (⟨_, mm_c220⟩)) (⟨_, mm_c221⟩)) (⟨_, mm_c222⟩)) (⟨_, mm_c223⟩)) (⟨_, mm_c224⟩)) (⟨_, mm_c225⟩)) (⟨_, mm_c226⟩)) (⟨_, mm_c227⟩)) (⟨_, mm_c228⟩)) (⟨_, mm_c229⟩)) (⟨_, mm_c230⟩)) (⟨_, mm_c231⟩)) (⟨_, mm_c232⟩)) (⟨_, mm_c233⟩)) (⟨_, mm_c234⟩)) (⟨_, mm_c235⟩)) (⟨_, mm_c236⟩)) (⟨_, mm_c237⟩)) (⟨_, mm_c238⟩)) (⟨_, mm_c239⟩)
theorem mm_kA270 : ∀ i, i < 270 → mm_Pk i := mm_stp (mm_stp (mm_stp (mm_stp (mm_stp (mm_stp (mm_stp (mm_stp (mm_stp (mm_stp (mm_stp (mm_stp (mm_stp (mm_stp (mm_stp (mm_stp (mm_stp (mm_stp (mm_stp (mm_stp (mm_stp (mm_stp (mm_stp (mm_stp (mm_stp (mm_stp (mm_stp (mm_stp (mm_stp (mm_stp (mm_kA240) (⟨_, mm_c240⟩)) (⟨_, mm_c241⟩)) (⟨_, mm_c242⟩)) (⟨_, mm_c243⟩)) (⟨_, mm_c244⟩)) (⟨_, mm_c245⟩)) (⟨_, mm_c246⟩)) (⟨_, mm_c247⟩)) (⟨_, mm_c248⟩)) (⟨_, mm_c249⟩)) (⟨_, mm_c250⟩)) (⟨_, mm_c251⟩)) (⟨_, mm_c252⟩)) (⟨_, mm_c253⟩)) (⟨_, mm_c254⟩)) (⟨_, mm_c255⟩)) (⟨_, mm_c256⟩)) (⟨_, mm_c257⟩)) (⟨_, mm_c258⟩)) (⟨_, mm_c259⟩)) (⟨_, mm_c260⟩)) (⟨_, mm_c261⟩)) (⟨_, mm_c262⟩)) (⟨_, mm_c263⟩)) (⟨_, mm_c264⟩)) (⟨_, mm_c265⟩)) (⟨_, mm_c266⟩)) (⟨_, mm_c267⟩)) (⟨_, mm_c268⟩)) (⟨_, mm_c269⟩)
theorem mm_kA293 : ∀ i, i < 293 → mm_Pk i := mm_stp (mm_stp (mm_stp (mm_stp (mm_stp (mm_stp (mm_stp (mm_stp (mm_stp (mm_stp (mm_stp (mm_stp (mm_stp (mm_stp (mm_stp (mm_stp (mm_stp (mm_stp (mm_stp (mm_stp (mm_stp (mm_stp (mm_stp (mm_kA270) (⟨_, mm_c270⟩)) (⟨_, mm_c271⟩)) (⟨_, mm_c272⟩)) (⟨_, mm_c273⟩)) (⟨_, mm_c274⟩)) (⟨_, mm_c275⟩)) (⟨_, mm_c276⟩)) (⟨_, mm_c277⟩)) (⟨_, mm_c278⟩)) (⟨_, mm_c279⟩)) (⟨_, mm_c280⟩)) (⟨_, mm_c281⟩)) (⟨_, mm_c282⟩)) (⟨_, mm_c283⟩)) (⟨_, mm_c284⟩)) (⟨_, mm_c285⟩)) (⟨_, mm_c286⟩)) (⟨_, mm_c287⟩)) (⟨_, mm_c288⟩)) (⟨_, mm_c289⟩)) (⟨_, mm_c290⟩)) (⟨_, mm_c291⟩)) (⟨_, mm_c292⟩)
def mm_p3 (mi : Nat) : Bool := mm_po mi 0 0 && Nat.ble (mm_ml mi) 40 && plainFor (mm_yn mi)
def mm_p3s : Bool := (List.range 293).all mm_p3
theorem mm_p3_ok : mm_p3s = true := by decide +kernel
theorem mm_okA : (∀ mi, mi < 293 → Jvm.Cond.code (mm_yn mi) (mm_yb mi) (mm_ml mi) (mm_yr mi) ∈ mm_gT) ∧ (∀ mi, mi < 293 → ∀ ip q, mm_at mi ip = some q → ∃ a, mm_ck mi ip q.1 q.2.1 q.2.2.1 q.2.2.2 a = true) ∧ (∀ mi, mi < 293 → mm_po mi 0 0 = true ∧ mm_ml mi ≤ 40 ∧ plainFor (mm_yn mi) = true) := by
  refine ⟨mm_wA293, fun mi h ip q hq => ?_, fun mi h => ?_⟩
  · obtain ⟨aux, ha⟩ := mm_kA293 mi h
    exact mm_ckM_at ha hq
  · have := List.all_eq_true.mp mm_p3_ok mi (List.mem_range.mpr h)
    unfold mm_p3 at this
    rw [Bool.and_eq_true, Bool.and_eq_true] at this
    exact ⟨this.1.1, Nat.le_of_ble_eq_true this.1.2, this.2⟩
theorem mm_law_at {ip : Nat} {q : mm_Ins} (hq : mm_at 293 ip = some q) : ∃ a, mm_ck 293 ip q.1 q.2.1 q.2.2.1 q.2.2.2 a = true := by
  have hlen : ip < 760 := by
    have e : mm_at 293 ip = mm_lg (match mm_lg mm_K 293 with | none => [] | some p => p.2) ip := by
      unfold mm_at
      cases mm_lg mm_K 293 with
      | none => cases ip <;> rfl
      | some p => rfl
    rw [e] at hq
    have h1 := mm_lg_len _ _ _ hq
    have h2 : (match mm_lg mm_K 293 with | none => [] | some p => p.2 : List mm_Ins).length = 751 := by decide +kernel
    omega
  by_cases h0 : ip < 40
  · exact mm_ckD_at mm_cL0 hq (by omega) (by omega)
  by_cases h1 : ip < 80
  · exact mm_ckD_at mm_cL40 hq (by omega) (by omega)
  by_cases h2 : ip < 120
  · exact mm_ckD_at mm_cL80 hq (by omega) (by omega)
  by_cases h3 : ip < 160
  · exact mm_ckD_at mm_cL120 hq (by omega) (by omega)
  by_cases h4 : ip < 200
  · exact mm_ckD_at mm_cL160 hq (by omega) (by omega)
  by_cases h5 : ip < 240
  · exact mm_ckD_at mm_cL200 hq (by omega) (by omega)
  by_cases h6 : ip < 280
  · exact mm_ckD_at mm_cL240 hq (by omega) (by omega)
  by_cases h7 : ip < 320
  · exact mm_ckD_at mm_cL280 hq (by omega) (by omega)
  by_cases h8 : ip < 360
  · exact mm_ckD_at mm_cL320 hq (by omega) (by omega)
  by_cases h9 : ip < 400
  · exact mm_ckD_at mm_cL360 hq (by omega) (by omega)
  by_cases h10 : ip < 440
  · exact mm_ckD_at mm_cL400 hq (by omega) (by omega)
  by_cases h11 : ip < 480
  · exact mm_ckD_at mm_cL440 hq (by omega) (by omega)
  by_cases h12 : ip < 520
  · exact mm_ckD_at mm_cL480 hq (by omega) (by omega)
  by_cases h13 : ip < 560
  · exact mm_ckD_at mm_cL520 hq (by omega) (by omega)
  by_cases h14 : ip < 600
  · exact mm_ckD_at mm_cL560 hq (by omega) (by omega)
  by_cases h15 : ip < 640
  · exact mm_ckD_at mm_cL600 hq (by omega) (by omega)
  by_cases h16 : ip < 680
  · exact mm_ckD_at mm_cL640 hq (by omega) (by omega)
  by_cases h17 : ip < 720
  · exact mm_ckD_at mm_cL680 hq (by omega) (by omega)
  by_cases h18 : ip < 760
  · exact mm_ckD_at mm_cL720 hq (by omega) (by omega)
  · omega
/-- as part 12's, but the method's name only without a row of the natives -/
def mm_OKf (l : Launch) (z : mm_Z) : Prop := (∀ mi, mi < 293 → Jvm.Cond.code (mm_yn mi) (mm_yb mi) (mm_ml mi) (mm_yr mi) ∈ mm_gT) ∧ (∀ mi, mi < 293 → ∀ ip q, mm_at mi ip = some q → ∃ a, mm_ck mi ip q.1 q.2.1 q.2.2.1 q.2.2.2 a = true) ∧ (∀ mi, mi < 293 → mm_po mi 0 0 = true ∧ mm_ml mi ≤ 40 ∧ plainFor (mm_yn mi) = true) ∧ mm_CH l z
theorem mm_ofWF {l : Launch} {y : MethodName} {ws ws' : List Cond} {rm : Room} {Pc : Array Value → State → Prop} {Qc : Array Value → State → Outcome → State → Prop} {mc ms : Nat} {free : Addr → Prop} {cc : ByteArray} {maxL : Nat} {ret : Option FieldType}
    (hy : plainFor y = true) (hw : ws = Cond.code y cc maxL ret :: ws')
    (body : ∀ p e s m args below meth c s₁, BodyLoose p l y (headSpec ws rm) cc maxL ret e s m args below meth c s₁ → c.maxLocals = maxL → Pc args s →
      W p l e (headSpec ws rm).room s m args below meth c s.heap [] 0 0 (MQ below Qc args s mc ms free) (entryFrame m args maxL)) : Met l y ws rm Pc Qc mc ms free := by
  refine MetFree.of_bodySF (code := cc) (maxLocals := maxL) (ret := ret) hy (fun args s m h hn => ?_) (fun p e s m args below meth c s₁ B hml hP _ => ?_)
  · obtain ⟨meth, c, h1, h2, h3, h4, h5, h6, -, -⟩ := Cond.code_spec hn (atoms_spec (ws := ws) h _ (by rw [hw]; exact List.mem_cons_self))
    exact ⟨meth, c, h1, h2, h3, h4, h5, h6⟩
  · have hh0 : s₁.heap = s.heap := by rw [B.state]; rfl
    obtain ⟨t, a1, o, b1, b2, b3⟩ := body p e s m args below meth c s₁ B hml hP s₁ hh0 (Stand.of_body B)
    exact ⟨t, o, a1, b1, b2, ⟨b3.1, b3.2⟩⟩
/-- a callee's contract, of what is known of shorter runs -/
theorem mm_callee_f {l : Launch} {z : mm_Z} (hOK : mm_OKf l z) {n d n0 m0 : Nat} {R : Room} (hPM : mm_PM l z n) {h : mm_H} {k : Nat} {as : List Value} {P : mm_Q} (hcs : mm_cs as ≤ mm_ml k) (H : mm_cG (mm_wp n) d k as h P) (hk : k < 293) (HB : ∀ r h1, P r h1 → hN h1 ≤ R.cells + n0 ∧ hM h1 ≤ R.slots + m0) : mm_CO l R z d n0 m0 h k as P := by
  unfold mm_cG at H
  match d, H with
  | d + 1, H =>
    obtain ⟨r, h1, p1, p2⟩ := mm_wp_det _ _ _ _ _ _ _ _ H
    obtain ⟨g1, g2⟩ := mm_grow _ _ _ _ _ _ _ _ _ p2
    obtain ⟨b1, b2⟩ := HB r h1 p1
    exact ⟨r, h1, p1, g1, g2, b1, b2, (hOK.2.2.1 k hk).2.1, fun _ => hOK.1 k hk, hPM d k as h r h1 hk hcs p2⟩
theorem mm_walk_f {l : Launch} {z : mm_Z} (hOK : mm_OKf l z) {n : Nat} (hPM : mm_PM l z n) (hPW : mm_PW l z n) : mm_PW l z (n + 1) := by
  intro p e R s m args below meth c Q mi d n0 m0 ip pc L st h H locs ls cells slots r h1 hmi HW hp hF hl hRl hlo hce hsl hB1 hB2 HR
  rw [mm_wp_s] at HW
  unfold mm_sW at HW
  cases hc : mm_at mi ip with
  | none => rw [hc] at HW; exact HW.elim
  | some q =>
    rw [hc] at HW
    obtain ⟨aux, ck⟩ := hmi ip q hc
    obtain ⟨ins, pc', x, v⟩ := q
    have hpc : pc' = pc := by
      unfold mm_po at hp
      rw [hc] at hp
      exact Nat.eq_of_beq_eq_true hp
    subst hpc
    have HO : mm_oW (mm_s1 ins x v ip L st h) (fun i L' s' h' => mm_wp n d mi i L' s' h' (fun r' h' => r' = r ∧ h' = h1)) (fun m as P => mm_cG (mm_wp n) d m as h P) ip L h (fun r' h' => r' = r ∧ h' = h1) := HW
    have HBn : ∀ (i : Nat) (L : mm_Lv) (st : List Value) (h : mm_H), mm_wp n d mi i L st h (fun r' h' => r' = r ∧ h' = h1) → hN h ≤ R.cells + n0 ∧ hM h ≤ R.slots + m0 := fun i L st h Hw => by
      obtain ⟨g1, g2⟩ := mm_grow _ _ _ _ _ _ _ _ _ Hw
      exact ⟨Nat.le_trans g1 hB1, Nat.le_trans g2 hB2⟩
    have K : mm_KN p l e R s m args below meth c Q z mi n0 m0 (fun i L' s' h' => mm_wp n d mi i L' s' h' (fun r' h' => r' = r ∧ h' = h1)) := by
      intro ip pc L st h H locs ls cells slots HF hp hRl hl hlo hce hsl
      exact hPW p e R s m args below meth c Q mi d n0 m0 ip pc L st h H locs ls cells slots r h1 hmi HF hp hF hl hRl hlo hce hsl hB1 hB2 HR
    refine mm_any (Qr := fun r' h' => r' = r ∧ h' = h1) hF hl hRl hlo hce hsl ck HO K (fun k as P hk hcs HG hB => mm_callee_f hOK hPM hcs HG hk hB) hOK.2.2.2 HBn (fun r' hr hro => ?_)
    obtain ⟨rfl, rfl⟩ := hr
    exact HR _ _ _ _ _ _ hro hRl hlo hce hsl
theorem mm_met_f {l : Launch} {z : mm_Z} (hOK : mm_OKf l z) {n : Nat} (hPW : mm_PW l z n) : mm_PM l z n := by
  intro d mi as h r h1 hmi hcs HW
  refine mm_ofWF (cc := mm_yb mi) (maxL := mm_ml mi) (ret := mm_yr mi) (hOK.2.2.1 mi hmi).2.2 rfl ?_
  intro p e s m args below meth c s₁ B hml hv
  obtain ⟨rfl, hRl, hFN⟩ := hv
  have hts0 := atoms_spec (ws := .code (mm_yn mi) (mm_yb mi) (mm_ml mi) (mm_yr mi) :: mm_gT) B.pre
  have hF : mm_Fr p (mm_rm d h h1) s m (as.map (mm_tr z)).toArray meth c z mi d := ⟨B.exec, B.bytes, hml, findClass_of_methodNamed B.named, fun w hw => hts0 w (List.mem_cons_of_mem _ hw), hFN, fun q => ((name_of_methodNamed B.named B.method).1).trans q, Nat.le_refl _, Nat.le_refl _, (hOK.2.2.1 mi hmi).2.1⟩
  obtain ⟨g1, g2⟩ := mm_grow _ _ _ _ _ _ _ _ _ HW
  have hl := lv_entry (as.map (mm_tr z)) (n := mm_ml mi) (by rw [mm_slL]; exact hcs)
  rw [lg_entry_eq]
  generalize (lg_sl (as.map (mm_tr z)) ++ List.replicate (mm_ml mi - (lg_sl (as.map (mm_tr z))).length) Slot.unset).toArray = ls at hl ⊢
  refine hPW p e (mm_rm d h h1) s m _ below meth c _ mi d (hN h) (hM h) 0 0 _ [] h s.heap [] ls 0 0 r h1 (hOK.2.1 mi hmi) HW (hOK.2.2.1 mi hmi).1 hF (mm_has_entry hl) hRl (fun q hq => by cases hq) (Nat.zero_add _) (Nat.zero_add _) (by show hN h1 ≤ hN h1 - hN h + hN h; omega) (by show hM h1 ≤ hM h1 - hM h + hM h; omega) ?_
  intro pc ls H locs cells slots hro hR1 hlo hce hsl
  have e1 : cells = hN h1 - hN h := by omega
  have e2 : slots = hM h1 - hM h := by omega
  subst e1
  subst e2
  unfold mm_ro at hro
  split at hro
  · obtain ⟨hd, hy⟩ := hro
    exact W.vret B.exec B.bytes (B.returns.trans hy) (fun t hH hW => ⟨rfl, by rw [hH]; exact hR1⟩) hlo hd B.notSynchronized
  · rename_i w
    obtain ⟨hd, hy | ⟨hy, hw⟩⟩ := hro
    · exact W.iret B.exec B.bytes (B.returns.trans hy) (fun t hH hW => ⟨rfl, by rw [hH]; exact hR1⟩) hlo hd B.notSynchronized
    · exact W.zret (ty := .boolean) B.exec B.bytes (B.returns.trans hy) (by rcases hw with rfl | rfl <;> rfl) (fun t hH hW => ⟨rfl, by rw [hH]; exact hR1⟩) hlo hd B.notSynchronized
  · obtain ⟨hd, hy⟩ := hro
    exact W.lret B.exec B.bytes (B.returns.trans hy) (fun t hH hW => ⟨rfl, by rw [hH]; exact hR1⟩) hlo hd B.notSynchronized
  · rename_i w
    obtain ⟨hd, hy⟩ := hro
    rcases hy with ⟨n, hy⟩ | ⟨n, hy⟩
    · exact W.aret (rt := .object n) B.exec B.bytes (B.returns.trans hy) (Or.inl ⟨n, rfl⟩) (Or.inr ⟨_, rfl⟩) (fun t hH hW => ⟨rfl, by rw [hH]; exact hR1⟩) hlo hd B.notSynchronized
    · exact W.aret (rt := .array n) B.exec B.bytes (B.returns.trans hy) (Or.inr ⟨n, rfl⟩) (Or.inr ⟨_, rfl⟩) (fun t hH hW => ⟨rfl, by rw [hH]; exact hR1⟩) hlo hd B.notSynchronized
  · exact hro.elim
theorem mm_all_f {l : Launch} {z : mm_Z} (hOK : mm_OKf l z) : ∀ n, mm_PM l z n ∧ mm_PW l z n := by
  intro n
  induction n with
  | zero =>
    have h : mm_PW l z 0 := by
      intro p e R s m args below meth c Q mi d n0 m0 ip pc L st h H locs ls cells slots r h1 hmi HW
      exact HW.elim
    exact ⟨mm_met_f hOK h, h⟩
  | succ n ih =>
    have h := mm_walk_f hOK ih.1 ih.2
    exact ⟨mm_met_f hOK h, h⟩

