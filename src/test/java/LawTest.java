import java.util.Random;

/** Promises 7 and 8: all short texts, and long ones made by the grammar, then broken: as the Model reads them. */
public final class LawTest {
    private static final Check CHECK = new Check("LawTest");
    private static final String SHORT = "w1|<=+-*!()?;";
    private static final String ALL = "wdaegp0123456789|&<=>+-*/%?;!()";

    private static WokenByKettle shared;
    private static Model sharedModel;
    private static int calls;

    public static void main(String[] args) {
        renew();
        allTexts(new StringBuilder(), 4);
        Random random = new Random(7);
        for (int i = 0; i < 6000 && CHECK.wrong() == 0; i++) {
            madeText(random);
        }
        CHECK.end();
    }

    private static void renew() {
        shared = new WokenByKettle();
        sharedModel = new Model();
        shared.part(0, 701);
        sharedModel.part(0, 701);
        calls = 1;
    }

    private static void allTexts(StringBuilder text, int more) {
        // what an object answers behind its 512th call is free
        if (calls > 500) {
            renew();
        }
        calls += text.length() + 2;
        compare(shared, sharedModel, text.toString(), 0);
        for (int i = 0; i < SHORT.length() && more > 0 && CHECK.wrong() == 0; i++) {
            text.append(SHORT.charAt(i));
            allTexts(text, more - 1);
            text.setLength(text.length() - 1);
        }
    }

    private static void compare(WokenByKettle x, Model m, String text, int part) {
        for (int i = 0; i < text.length(); i++) {
            CHECK.due("feed", x.feed(text.charAt(i)), m.feed(text.charAt(i)));
        }
        int said = x.law();
        CHECK.due("law of " + text, said, m.law());
        if (said == 1) {
            CHECK.due("value of " + text, x.works(part), m.works(part));
        }
    }

    private static void madeText(Random random) {
        WokenByKettle x = new WokenByKettle();
        Model m = new Model();
        int part = random.nextInt(3);
        for (int i = 0; i <= part; i++) {
            int wt = 100 * random.nextInt(13) + 1;
            CHECK.due("part", x.part(0, wt), m.part(0, wt));
        }
        int[][] mends = {{part, 4, random.nextInt(10)}, {part, 5, random.nextInt(100)}, {0, 6, random.nextInt(10)},
            {0, 7, random.nextInt(2)}};
        for (int[] one : mends) {
            CHECK.due("mend", x.mend(one[0], one[1], one[2]), m.mend(one[0], one[1], one[2]));
        }
        StringBuilder text = new StringBuilder();
        int lines = 1 + random.nextInt(3);
        for (int i = 0; i < lines; i++) {
            text.append(i > 0 ? ";" : "");
            if (random.nextInt(3) > 0) {
                loose(random, text, 0, 0);
                text.append('?');
            }
            loose(random, text, 0, 0);
        }
        compare(x, m, text.toString(), part);
        text.setLength(Math.min(text.length(), 120));
        StringBuilder broken = new StringBuilder(text);
        int at = random.nextInt(broken.length());
        switch (random.nextInt(3)) {
            case 0: broken.setCharAt(at, ALL.charAt(random.nextInt(ALL.length()))); break;
            case 1: broken.deleteCharAt(at); break;
            default: broken.insert(at, ALL.charAt(random.nextInt(ALL.length())));
        }
        compare(x, m, broken.toString(), part);
    }

    /** Appends one expression of a level (0: E .. 5: O). */
    private static void loose(Random random, StringBuilder text, int level, int open) {
        if (level == 5) {
            tight(random, text, open);
            return;
        }
        loose(random, text, level + 1, open);
        String signs = new String[] {"|", "&", "<=>", "+-", "*/%"}[level];
        while (random.nextInt(5) == 0 && text.length() < 100) {
            text.append(signs.charAt(random.nextInt(signs.length())));
            loose(random, text, level + 1, open);
            if (level == 2) {
                return;
            }
        }
    }

    private static void tight(Random random, StringBuilder text, int open) {
        int dice = random.nextInt(8);
        if (dice < 3 && open < 7 && text.length() < 90) {
            text.append("(!-".charAt(dice));
            if (dice == 0) {
                loose(random, text, 0, open + 1);
                text.append(')');
            } else {
                tight(random, text, open + 1);
            }
        } else if (dice < 6) {
            text.append("wdaegp".charAt(random.nextInt(6)));
        } else {
            int number = random.nextInt(random.nextInt(4) == 0 ? 10000 : 13);
            text.append(random.nextInt(9) == 0 ? String.format("%04d", number) : "" + number);
        }
    }
}
