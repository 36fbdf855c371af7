noncomputable section
end
