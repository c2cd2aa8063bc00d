/** READING: which bytes are an S, a CHAR, a NAME's, a TOKEN's; each of the 256 that there are is tried. */
public final class ByteEdgesTest {
    public static void main(String[] args) {
        for (int b = 0; b < 256; b++) {
            space((char) b);
            comment((char) b);
            text((char) b);
            value((char) b);
            path((char) b);
            nameBegin((char) b);
            nameRest((char) b);
            token((char) b);
            digit((char) b);
            number((char) b);
        }
        numbered();
        Desk.end();
    }

    private static boolean isSpace(int b) {
        return " \t\n\r".indexOf(b) >= 0;
    }

    private static boolean isChar(int b) {
        return isSpace(b) || b > 32 && b < 127;
    }

    private static boolean isNameBegin(int b) {
        return "ABCDEFGHIJKLMNOPQRSTUVWXYZabcdefghijklmnopqrstuvwxyz_".indexOf(b) >= 0;
    }

    private static boolean isNameByte(int b) {
        return isNameBegin(b) || "0123456789-.".indexOf(b) >= 0;
    }

    /** S: one or more of 9, 10, 13, 32. */
    private static void space(char b) {
        String text = "<!DOCTYPE" + b + "d []>" + b + "<d/>";
        if (isSpace(b)) {
            Desk.taken(text, 2);
        } else {
            Desk.refused(text, -1, 9);
        }
    }

    /** CHAR: 9, 10, 13, 32 .. 126, here in a COMMENT. */
    private static void comment(char b) {
        String text = "<!--" + b + " --><a/>";
        if (isChar(b)) {
            Desk.taken(text, 2);
        } else {
            Desk.refused(text, -1, 4);
        }
    }

    private static void text(char b) {
        String text = "<a>" + b + "</a>";
        if (b == '<') {
            Desk.refused(text, -1, 4);
        } else if (isChar(b) && b != '&') {
            Desk.due("byte " + (int) b, Desk.taken(text, 3).string(2), "" + b);
        } else {
            Desk.refused(text, -1, 3);
        }
    }

    private static void value(char b) {
        String text = "<a x=\"" + b + "\"/>";
        if (b == '"') {
            Desk.refused(text, -1, 7);
        } else if (isChar(b) && b != '&' && b != '<') {
            Desk.due("byte " + (int) b, Desk.taken(text, 3).string(2), isSpace(b) ? " " : "" + b);
        } else {
            Desk.refused(text, -1, 6);
        }
    }

    /** CHARS but that quote, of a PATH; and no S, nor anything else, but in quotes. */
    private static void path(char b) {
        Desk desk = Desk.taken("<a><b>&#" + (isChar(b) ? (int) b : 65) + ";</b></a>", 4);
        String due = b == '"' ? "-1@6" : isChar(b) ? "2" : "-1@5";
        Desk.due("QUOTED byte " + (int) b, desk.path(1, "*[.=\"" + b + "\"]"), due);
        due = isNameByte(b) || b == '[' ? "-1@6" : b == '/' ? "3" : "-1@1";
        Desk.due("byte " + (int) b + " behind a NAME", desk.path(1, "b" + b + "text()"), due);
        due = b == 'b' || b == '*' ? "2" : b == '.' ? "1" : isNameBegin(b) ? "" : b == '@' || b == '/' ? "-1@3" : "-1@2";
        Desk.due("byte " + (int) b + " of a STEP", desk.path(1, "./" + b), due);
    }

    /** NUMBER: 1 to 4 digits. */
    private static void number(char b) {
        Desk desk = Desk.taken("<a>" + Desk.repeat("<b/>", 20) + "</a>", 22);
        String due = b >= '0' && b <= '9' ? "" + (11 + b - '0') : b == ']' ? "-1@4" : "-1@3";
        Desk.due("byte " + (int) b + " of a NUMBER", desk.path(1, "b[1" + b + "]"), due);
    }

    /** NAME: a letter or _ first. */
    private static void nameBegin(char b) {
        String text = "<" + b + "/>";
        if (isNameBegin(b)) {
            Desk.due("NAME", Desk.taken(text, 2).name(1), "" + b);
        } else {
            Desk.refused(text, -1, 1);
        }
    }

    /** NAME: then letters, digits, _ - . as many as follow. */
    private static void nameRest(char b) {
        String text = "<a" + b + "/>";
        if (isNameByte(b)) {
            Desk.due("NAME", Desk.taken(text, 2).name(1), "a" + b);
        } else if (isSpace(b)) {
            Desk.due("NAME", Desk.taken(text, 2).name(1), "a");
        } else {
            Desk.refused(text, -1, b == '>' ? 5 : 2);
        }
    }

    /** TOKEN: letters, digits, _ - . (one at least). */
    private static void token(char b) {
        String head = "<!DOCTYPE a [<!ATTLIST a x (";
        String text = head + b + ") #IMPLIED>]><a/>";
        if (isNameByte(b)) {
            Desk.taken(text, 2);
        } else {
            Desk.refused(text, -1, head.length() + (isSpace(b) ? 1 : 0));
        }
    }

    /** A digit of a REF, and of a NUMBER. */
    private static void digit(char b) {
        String text = "<a>&#6" + b + ";</a>";
        if (b >= '0' && b <= '9') {
            Desk.due("REF", Desk.taken(text, 3).string(2), "" + (char) (60 + b - '0'));
        } else {
            Desk.refused(text, -1, 3);
        }
    }

    /** A REF must be of a CHAR's number. */
    private static void numbered() {
        for (int number = 0; number <= 300; number++) {
            String text = "<a>&#" + number + ";</a>";
            if (isChar(number)) {
                Desk.due("REF " + number, Desk.taken(text, 3).string(2), "" + (char) number);
            } else {
                Desk.refused(text, -1, 3);
            }
        }
    }
}
