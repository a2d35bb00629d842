/** Answers as the rows tell them: numbers, true and false, throws.Name, and figures as 5 or 1/3. */
final class Answers {
    private Answers() {
    }

    static boolean isAsTold(Object answer, String told) {
        if (told.startsWith(Call.THROWS)) {
            return told.equals(answer);
        }
        String[] parts = told.split("/");
        if (answer instanceof Float) {
            float due = parts.length == 1 ? Float.parseFloat(told) : Float.parseFloat(parts[0]) / Float.parseFloat(parts[1]);
            return (Float) answer == due;
        }
        if (answer instanceof Double) {
            double due = parts.length == 1 ? Double.parseDouble(told) : Double.parseDouble(parts[0]) / Double.parseDouble(parts[1]);
            return (Double) answer == due;
        }
        return told.equals(String.valueOf(answer));
    }
}
