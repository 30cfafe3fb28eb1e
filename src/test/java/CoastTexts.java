import java.util.ArrayList;
import java.util.Collections;
import java.util.List;
import java.util.Random;

/** Texts of coasts by dice: sound ones, and such as may have a fault. */
final class CoastTexts {
    private CoastTexts() {
    }

    static String coast(Random dice) {
        int cells = 1 + dice.nextInt(12);
        List<String> clauses = new ArrayList<>();
        for (int k = dice.nextInt(dice.nextInt(3) == 0 ? 13 : 5); k > 0; k--) {
            clauses.add("h" + number(dice, dice.nextInt(2)) + " " + number(dice, dice.nextInt(41)));
        }
        List<Integer> places = new ArrayList<>();
        for (int a = 0; a < cells; a++) places.add(a);
        Collections.shuffle(places, dice);
        for (int p = Math.min(cells, dice.nextInt(7)) - 1; p >= 0; p--) {
            clauses.add("p" + places.get(p) + " " + dice.nextInt(10) + " " + (1 + dice.nextInt(99)) + " " + dice.nextInt(2));
        }
        if (dice.nextInt(3) != 0) clauses.add("d" + dice.nextInt(128) + " " + dice.nextInt(128));
        if (dice.nextInt(4) != 0) clauses.add("u" + dice.nextInt(dice.nextInt(3) == 0 ? 100 : 20) + " " + dice.nextInt(30));
        for (int g = dice.nextInt(5); g > 0; g--) clauses.add("g" + dice.nextInt(cells) + " " + (1 + dice.nextInt(20)));
        Collections.shuffle(clauses, dice);
        StringBuilder text = new StringBuilder("f" + cells + " " + dice.nextInt(21) + ";");
        for (String c : clauses) {
            if (text.length() + c.length() + 3 > 240) break;
            text.append(dice.nextInt(6) == 0 ? " " : "").append(c).append(dice.nextInt(6) == 0 ? " ;" : ";");
        }
        return text.toString();
    }

    private static String number(Random dice, int n) {
        return dice.nextInt(12) == 0 ? "0" + n : String.valueOf(n);
    }

    static String broken(Random dice) {
        String letters = "fhpdug;  0123456789x,-\t\n\0\u00ff";
        StringBuilder text = new StringBuilder(dice.nextInt(20) == 0 ? "   " : coast(dice));
        for (int k = dice.nextInt(4); k > 0 && text.length() > 0; k--) {
            int at = dice.nextInt(text.length());
            char letter = letters.charAt(dice.nextInt(letters.length()));
            switch (dice.nextInt(4)) {
                case 0 -> text.setCharAt(at, letter);
                case 1 -> text.insert(at, letter);
                case 2 -> text.deleteCharAt(at);
                default -> text.setLength(at);
            }
        }
        return text.toString();
    }
}
