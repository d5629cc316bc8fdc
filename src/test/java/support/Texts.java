import java.util.Random;

/** Draws texts of rivers, right ones and such as have been spoilt somewhere. */
final class Texts {
    private static final String[] FACTS = {"left", "right", "lload", "rload", "wait", "minute"};
    private static final String[] LAWS = {"left=right and 0<left", "lload<rload+50 and 40<wait", "5<left+right", "1", "0",
        "left<right+3 and 20<wait or minute=700", "not(left=right)and 3<wait", "wait=30 or (left*2=right)",
        "minute=60 or minute=61 or minute=300", "not left and right or wait*wait=400", "120<lload+rload"};
    private final Random random;

    Texts(Random random) {
        this.random = random;
    }

    private boolean oneOf(int number) {
        return random.nextInt(number) == 0;
    }

    private String blank() {
        return oneOf(6) ? "\n" : oneOf(9) ? "  " : " ";
    }

    private String loose() {
        return oneOf(8) ? blank() : "";
    }

    private String pick(String... texts) {
        return texts[random.nextInt(texts.length)];
    }

    private String part(int within, int most) {
        int draw = random.nextInt(within >= most ? 6 : 10);
        if (draw < 3) {
            return pick(FACTS);
        }
        if (draw < 6) {
            return String.valueOf(oneOf(5) ? random.nextInt(10000) : random.nextInt(80));
        }
        if (draw < 8) {
            return "not " + part(within + 1, most);
        }
        return "(" + loose() + e(within + 1, most) + loose() + ")";
    }

    private String product(int within, int most) {
        return part(within, most) + (oneOf(5) ? loose() + "*" + loose() + part(within, most) : "");
    }

    private String sum(int within, int most) {
        StringBuilder text = new StringBuilder(product(within, most));
        while (oneOf(4)) {
            text.append(loose()).append(pick("+", "-")).append(loose()).append(product(within, most));
        }
        return text.toString();
    }

    private String test(int within, int most) {
        return sum(within, most) + (oneOf(3) ? "" : pick("<", "=") + sum(within, most));
    }

    private String e(int within, int most) {
        StringBuilder text = new StringBuilder(test(within, most));
        while (oneOf(4)) {
            text.append(" ").append(pick("and", "or")).append(" ").append(test(within, most));
        }
        return text.toString();
    }

    String law() {
        return "law " + (oneOf(2) ? pick(LAWS) : e(0, oneOf(6) ? 5 : 4)) + loose() + ";" + loose();
    }

    String person(String name, int late, boolean chooser) {
        String kind = chooser ? "chooser" : Model.KINDS.get(random.nextInt(5));
        return "person " + name + blank() + pick("left", "right") + " at " + random.nextInt(late) + " weight "
                + random.nextInt(oneOf(3) ? 1000 : 90) + " cost " + random.nextInt(oneOf(4) ? 100 : 6) + " " + kind + loose()
                + ";" + loose();
    }

    /** A right text, mostly: it may tell too many or be too long for the tape. */
    String river(int mostPersons, int mostChoosers) {
        StringBuilder text = new StringBuilder();
        text.append(oneOf(2) ? "" : "room " + (1 + random.nextInt(oneOf(2) ? 3 : 40)) + ";");
        text.append(oneOf(3) ? "" : "trip " + random.nextInt(oneOf(2) ? 5 : 100) + loose() + ";");
        text.append(oneOf(2) ? "" : "boats" + loose() + (1 + random.nextInt(2)) + ";");
        if (oneOf(2)) {
            int first = 1 + random.nextInt(8);
            text.append("side ").append(first).append("of ").append(first + 1 + random.nextInt(9 - first)).append(";");
        }
        text.append(oneOf(2) ? "" : "come " + random.nextInt(oneOf(4) ? 1001 : 200) + ";");
        int laws = random.nextInt(5);
        for (int i = 0; i < laws; i++) {
            text.append(law());
        }
        int late = oneOf(4) ? 1440 : oneOf(2) ? 300 : 60;
        int persons = random.nextInt(mostPersons + 1);
        int choosers = 0;
        for (int i = 0; i < persons; i++) {
            boolean chooser = choosers < mostChoosers && oneOf(3);
            choosers += chooser ? 1 : 0;
            text.append(person("" + (char) ('a' + i) + (oneOf(5) ? "x" : ""), late, chooser));
        }
        return text.toString();
    }

    String spoilt(String text) {
        StringBuilder spoilt = new StringBuilder(text);
        int times = 1 + random.nextInt(2);
        for (int i = 0; i < times; i++) {
            int place = random.nextInt(spoilt.length() + 1);
            int end = Math.min(spoilt.length(), place + 1 + random.nextInt(oneOf(3) ? 8 : 1));
            switch (random.nextInt(5)) {
                case 0 -> spoilt.delete(place, end);
                case 1 -> spoilt.insert(place, (char) (32 + random.nextInt(95)));
                case 2 -> spoilt.insert(place, pick("(", ")", "not ", "<", "=", ";", " and ", "1", "9", "a", " room ", "law 1;",
                        "room 3;", "side 1 of 2;", "chooser", " left "));
                case 3 -> spoilt.setLength(place);
                default -> spoilt.insert(place, spoilt.substring(place, Math.min(spoilt.length(), place + random.nextInt(60))));
            }
        }
        return spoilt.toString();
    }
}
