import java.util.Random;

/** Texts of a pass by draws: good ones, and ones with a letter wrong. */
final class ModelTexts {
    private static final String LETTERS = "gijdrt;0123456789 0123456789 ;;  xG\t";

    private ModelTexts() {
    }

    static String drawn(Random random) {
        StringBuilder text = new StringBuilder();
        add(text, "g", random.nextInt(3) == 0 ? 1 + random.nextInt(999) : 10 + random.nextInt(80), random.nextInt(100));
        int ideas = random.nextInt(20) == 0 ? 0 : 1 + random.nextInt(8);
        boolean alike = random.nextInt(3) == 0;
        int[] sizes = new int[8];
        for (int i = 0; i < ideas; i++) {
            sizes[i] = alike ? 10 + random.nextInt(3) : 1 + random.nextInt(99);
            add(text, "i", sizes[i]);
        }
        for (int k = random.nextInt(11); k > 0 && ideas > 1; k--) {
            int a = random.nextInt(ideas);
            int b = random.nextBoolean() ? a : random.nextInt(ideas);
            int c = random.nextInt(ideas);
            if (c != a && c != b) {
                add(text, "j", a, b, c);
            }
        }
        for (int k = random.nextInt(11); k > 0 && ideas > 1; k--) {
            int a = random.nextInt(ideas);
            int b = random.nextInt(ideas);
            if (a != b && sizes[b] <= sizes[a]) {
                add(text, "d", a, b, 1 + random.nextInt(alike ? 4 : 99));
            }
        }
        for (int i = 0; i < ideas; i++) {
            if (random.nextInt(4) == 0) {
                add(text, "r", i);
            }
        }
        for (int t = random.nextInt(20) == 0 ? 0 : 1 + random.nextInt(5); t > 0; t--) {
            add(text, "t", random.nextInt(1 << ideas));
        }
        return text.toString();
    }

    private static void add(StringBuilder text, String word, int... numbers) {
        StringBuilder clause = new StringBuilder(word);
        for (int k = 0; k < numbers.length; k++) {
            clause.append(k == 0 ? "" : " ").append(numbers[k]);
        }
        clause.append(';');
        if (text.length() + clause.length() <= 240) {
            text.append(clause);
        }
    }

    static String spoil(String text, Random random) {
        StringBuilder spoilt = new StringBuilder(text);
        for (int times = 1 + random.nextInt(2); times > 0; times--) {
            char letter = LETTERS.charAt(random.nextInt(LETTERS.length()));
            int at = random.nextInt(spoilt.length() + 1);
            switch (random.nextInt(5)) {
                case 0 -> spoilt.setLength(at);
                case 1 -> spoilt.delete(at, Math.min(spoilt.length(), at + 1));
                case 2 -> spoilt.replace(at, Math.min(spoilt.length(), at + 1), String.valueOf(letter));
                case 3 -> spoilt.append(text, 0, Math.min(text.length(), at));
                default -> spoilt.insert(at, letter);
            }
        }
        return spoilt.toString();
    }
}
