/** Lines of a river's text that tell people. */
final class People {
    private People() {
    }

    static String person(String name, String side, int at, int weight, int cost, String kind) {
        return "person " + name + " " + side + " at " + at + " weight " + weight + " cost " + cost + " " + kind + ";";
    }

    /** One of weight 70 and cost 1. */
    static String one(String name, String side, int at, String kind) {
        return person(name, side, at, 70, 1, kind);
    }

    static String plain(String name, String side, int at) {
        return one(name, side, at, "plain");
    }

    /** So many plain ones who come to one bank in one minute. */
    static String plains(int number, String side, int at) {
        StringBuilder text = new StringBuilder();
        for (int i = 0; i < number; i++) {
            text.append(plain(side.substring(0, 1) + (char) ('a' + i), side, at));
        }
        return text.toString();
    }
}
