/** What TEXTS are, seen from outside. */
final class Texts {
    static final int ANSWERS = 0;
    static final int FRESH = 1;

    private Texts() {
    }

    /** The FAULT of a text as a TEXT of a USE; -1 if it is none. */
    static int fault(int use, String text) {
        FathersPay x = new FathersPay();
        Due.feed(x, text);
        int answer = x.text(use);
        Due.due("THE TAPE is empty behind " + text, x.count(6), 0);
        Due.due("there is a TEXT by " + text, x.untell(use), answer == 1 ? 1 : 0);
        for (int k = 1; k <= 6; k++) {
            Due.due("no ERROR told by " + text, x.told(k), 0);
        }
        return answer == 1 ? -1 : -10 - answer;
    }

    /** What a TEXT is worth, seen by FRESH of one with two children: held within 0 .. 9999. */
    static int fresh(String text, int purse, int house) {
        FathersPay x = new FathersPay();
        x.person(0, purse, house);
        x.person(0, 0, 0);
        x.person(0, 0, 0);
        x.parent(1, 0, 0);
        x.parent(2, 1, 0);
        Towns.tell(x, FRESH, text);
        x.years(1);
        return x.personIs(0, 5) - purse;
    }

    /** Whether a text that may be worth anything is worth so much (100 in the PURSE, 230 in the HOUSE). */
    static boolean isWorth(String text, int due) {
        String number = due >= 0 ? "" + due : "(0-" + -due + ")";
        return fresh("(" + text + ")=" + number, 100, 230) == 1;
    }
}
