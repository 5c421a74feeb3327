/** Texts for the byte buffer that more than one test needs. */
final class Texts {
    /** Two siblings marry: al and bo, their children cy and di, and ed, the child of these. */
    static final String FAMILY = "person al 1900;person bo 1901;person cy 1930;person di 1932;"
            + "person ed 1960;union al bo 1920 cy di;union cy di 1955 ed;";
    /** x and y stand the other way round than their parents, and r, without parents, marries y. */
    static final String CROSSED = "person a 1;person b 2;person c 3;person d 4;person r 5;person x 6;"
            + "person y 7;union c d 10 x;union a b 11 y;union r y 12;";

    private Texts() {
    }

    static char letter(int person) {
        return (char) ('a' + person);
    }

    /** Persons a, b and so on, eleven bytes each. */
    static String persons(int count) {
        StringBuilder text = new StringBuilder();
        for (int i = 0; i < count; i++) {
            text.append("person ").append(letter(i)).append(" 1;");
        }
        return text.toString();
    }

    /** Unions of a with the persons behind it, twelve bytes each. */
    static String unions(int count) {
        StringBuilder text = new StringBuilder();
        for (int i = 0; i < count; i++) {
            text.append("union a ").append(letter(i + 1)).append(" 1;");
        }
        return text.toString();
    }

    /** Each child marries its later born parent: 14 persons and 12 unions in 13 rows. */
    static String ladder() {
        StringBuilder text = new StringBuilder(persons(14));
        for (int i = 0; i < 12; i++) {
            text.append("union ").append(letter(i)).append(' ').append(letter(i + 1)).append(" 1 ")
                    .append(letter(i + 2)).append(';');
        }
        return text.toString();
    }

    /** The ladder with its youngest person and its last union first. */
    static String ladderUpwards() {
        StringBuilder text = new StringBuilder(persons(14));
        for (int i = 0; i < 12; i++) {
            text.append("union ").append(letter(i + 1)).append(' ').append(letter(i + 2)).append(" 1 ")
                    .append(letter(i)).append(';');
        }
        return text.toString();
    }

    /** Twelve steps lead from a down to n; b is the other parent at each of them. */
    static String line() {
        StringBuilder text = new StringBuilder(persons(14));
        text.append("union a b 1 c;");
        for (int i = 2; i < 13; i++) {
            text.append("union ").append(letter(i)).append(" b 1 ").append(letter(i + 1)).append(';');
        }
        return text.toString();
    }

    /** Parents a to h, each pair of neighbours with one child, i to o: the longest way that 16 persons can have. */
    static String zigzag() {
        StringBuilder text = new StringBuilder(persons(16));
        for (int i = 0; i < 7; i++) {
            text.append("union ").append(letter(i)).append(' ').append(letter(i + 1)).append(" 1 ")
                    .append(letter(i + 8)).append(';');
        }
        return text.toString();
    }

    /** 14 children of one pair, 11 of whom marry one of their parents: 25 boxes of ten columns in the second row. */
    static String widest() {
        StringBuilder text = new StringBuilder();
        for (int i = 0; i < 16; i++) {
            text.append("person ").append(longName(i)).append(" 1;");
        }
        text.append("union ").append(longName(0)).append(' ').append(longName(1)).append(" 1");
        for (int i = 2; i < 16; i++) {
            text.append(' ').append(longName(i));
        }
        text.append(';');
        for (int i = 2; i < 13; i++) {
            text.append("union ").append(longName(0)).append(' ').append(longName(i)).append(" 1;");
        }
        return text.toString();
    }

    /** Eight letters, the last one that of the person. */
    static String longName(int person) {
        return "abcdefg" + letter(person);
    }
}
