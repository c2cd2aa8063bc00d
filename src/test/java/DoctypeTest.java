/** Promise 3: read, by the forms that a DOCTYPE may have. */
public final class DoctypeTest {
    private static final String HEAD = "<!DOCTYPE a [";
    private static final String TAIL = "]><a/>";

    public static void main(String[] args) {
        frame();
        specs();
        groups();
        rules();
        bounds();
        defaults();
        Desk.end();
    }

    private static Desk good(String declarations) {
        return Desk.taken(HEAD + declarations + TAIL, 2);
    }

    /** The declarations must be refused; their first byte has the place 0. */
    private static void bad(String declarations, int number, int place) {
        Desk.refused(HEAD + declarations + TAIL, number, HEAD.length() + place);
    }

    private static void frame() {
        good("");
        good(" \n<!--c-->\t");
        Desk.taken("<!--x--><!DOCTYPE\na\t[ ] > <!--y--><a/>", 2);
        Desk.refused("<!DOCTYPEa []><a/>", -1, 9);
        Desk.refused("<!DOCTYPE []><a/>", -1, 10);
        Desk.refused("<!DOCTYPE a><a/>", -1, 11);
        Desk.refused("<!DOCTYPE a [", -1, 13);
        Desk.refused("<!DOCTYPE a [] <a/>", -1, 15);
        Desk.refused("<!DOCTYPE a []>", -1, 15);
        Desk.refused("<!DOCTYPE a []><!DOCTYPE a []><a/>", -1, 16);
        Desk.refused("<!DOCTYPE " + Desk.repeat("n", 21) + " []><a/>", -3, 10);
        Desk.refused("<!DOCTYPE a <a/>", -1, 12);
        Desk.refused("<!DOCTYPE<a/>", -1, 9);
        bad("x", -1, 0);
        bad("<!ENTITY", -1, 0);
        bad("<!ELEMEN a ANY>", -1, 0);
        bad("<!- -->", -1, 0);
    }

    private static void specs() {
        good("<!ELEMENT a EMPTY><!ELEMENT\nb\tANY >");
        good("<!ELEMENT a (#PCDATA)><!ELEMENT b ( #PCDATA )*>");
        good("<!ELEMENT a (#PCDATA|b)*><!ELEMENT b (#PCDATA\n|\tc | d )*>");
        bad("<!ELEMENTa ANY>", -1, 9);
        bad("<!ELEMENT", -1, 9);
        bad("<!ELEMENT a", -1, 11);
        bad("<!ELEMENT a ", -1, 12);
        bad("<!ELEMENT a >", -1, 12);
        bad("<!ELEMENT a (#PCDATA>", -1, 20);
        bad("<!ELEMENT a (#PCDATA|>", -1, 21);
        bad("<!ELEMENT 1 ANY>", -1, 10);
        bad("<!ELEMENT aANY>", -1, 14);
        bad("<!ELEMENT a>", -1, 11);
        bad("<!ELEMENT a any>", -1, 12);
        bad("<!ELEMENT a ANYX>", -1, 15);
        bad("<!ELEMENT a (#PCDATA|b)>", -1, 23);
        bad("<!ELEMENT a (#PCDATA|b) *>", -1, 23);
        bad("<!ELEMENT a (#PCDATA,b)*>", -1, 20);
        bad("<!ELEMENT a (#PCDATA|(b))*>", -1, 21);
        bad("<!ELEMENT a (#PCDATA|)*>", -1, 21);
        bad("<!ELEMENT a (#PCDATA|b?)*>", -1, 22);
        bad("<!ELEMENT a (#PCDATA)+>", -1, 21);
        bad("<!ELEMENT a (#PCDAT)>", -1, 13);
        bad("<!ELEMENT a (b|#PCDATA)*>", -1, 15);
    }

    private static void groups() {
        good("<!ELEMENT a (b)><!ELEMENT b ( b? )>");
        good("<!ELEMENT a (b?,(c|d+)*,(e))+ >");
        good("<!ELEMENT a ((b))?>");
        bad("<!ELEMENT a ()>", -1, 13);
        bad("<!ELEMENT a (>", -1, 13);
        bad("<!ELEMENT a (b>", -1, 14);
        bad("<!ELEMENT a (b,)>", -1, 15);
        bad("<!ELEMENT a (b,c|d)>", -1, 16);
        bad("<!ELEMENT a (b|c,d)>", -1, 16);
        bad("<!ELEMENT a (b|(c,d)|e,f)>", -1, 22);
        bad("<!ELEMENT a (b c)>", -1, 15);
        bad("<!ELEMENT a (b ?)>", -1, 15);
        bad("<!ELEMENT a (b??)>", -1, 15);
        bad("<!ELEMENT a (b) ?>", -1, 16);
        bad("<!ELEMENT a (b))>", -1, 15);
        bad("<!ELEMENT a b>", -1, 12);
        Desk.refused(HEAD + "<!ELEMENT a (b", -1, HEAD.length() + 14);
    }

    private static void rules() {
        good("<!ATTLIST a><!ATTLIST a >");
        good("<!ATTLIST a x CDATA #REQUIRED y ID #IMPLIED\nz (1|-.|a_b) #IMPLIED>");
        bad("<!ATTLISTa x CDATA #IMPLIED>", -1, 9);
        bad("<!ATTLIST>", -1, 9);
        bad("<!ATTLIST >", -1, 10);
        bad("<!ATTLIST a x>", -1, 13);
        bad("<!ATTLIST a x CDATA>", -1, 19);
        bad("<!ATTLIST a x CDATA >", -1, 20);
        bad("<!ATTLIST a x 'v'>", -1, 14);
        bad("<!ATTLIST a x (b>", -1, 16);
        bad("<!ATTLIST a 1>", -1, 12);
        bad("<!ATTLIST a x CDAT #IMPLIED>", -1, 14);
        bad("<!ATTLIST a x IDREF #IMPLIED>", -1, 16);
        bad("<!ATTLIST a x CDATA#IMPLIED>", -1, 19);
        bad("<!ATTLIST a x () #IMPLIED>", -1, 15);
        bad("<!ATTLIST a x (b|) #IMPLIED>", -1, 17);
        bad("<!ATTLIST a x (b,c) #IMPLIED>", -1, 16);
        bad("<!ATTLIST a x (b c) #IMPLIED>", -1, 17);
        bad("<!ATTLIST a x CDATA #FIXED>", -1, 26);
        bad("<!ATTLIST a x CDATA #FIXED #IMPLIED>", -1, 27);
        bad("<!ATTLIST a x CDATA #NONE>", -1, 20);
        bad("<!ATTLIST a x CDATA y>", -1, 20);
        bad("<!ATTLIST a x CDATA '<'>", -1, 21);
        bad("<!ATTLIST a x CDATA '&;'>", -1, 21);
        bad("<!ATTLIST a x CDATA 'y'z CDATA 'y'>", -1, 23);
    }

    private static String row(String before, String sign, int times, String after) {
        StringBuilder all = new StringBuilder(before);
        for (int i = 0; i < times; i++) {
            all.append(i == 0 ? "" : sign).append('n').append(i);
        }
        return all.append(after).toString();
    }

    private static void bounds() {
        String element = "<!ELEMENT b EMPTY>";
        good(Desk.repeat(element, 30));
        bad(Desk.repeat(element, 31), -3, 30 * element.length());
        bad(Desk.repeat(element, 30) + "<!ELEMENT?", -3, 30 * element.length());
        good(row("<!ELEMENT a (", ",", 40, ")>"));
        good(row("<!ELEMENT a (#PCDATA|", "|", 40, ")*>"));
        bad(row("<!ELEMENT a (", ",", 41, ")>"), -3, row("<!ELEMENT a (", ",", 40, ",").length());
        bad(row("<!ELEMENT a (#PCDATA|", "|", 41, ")*>"), -3, row("<!ELEMENT a (#PCDATA|", "|", 40, "|").length());
        good("<!ELEMENT a ((((((b))))))><!ELEMENT b ((b),(b),(b),(b),(b),(b),(b))>");
        bad("<!ELEMENT a (((((((b)))))))>", -3, 18);
        good("<!ATTLIST a x (1|2|3|4|5|6|7|8) #IMPLIED>");
        bad("<!ATTLIST a x (1|2|3|4|5|6|7|8|9) #IMPLIED>", -3, 31);
        good("<!ATTLIST a x (" + Desk.repeat("1", 20) + ") #IMPLIED>");
        bad("<!ATTLIST a x (" + Desk.repeat("1", 21) + ") #IMPLIED>", -3, 15);
        bad("<!ATTLIST a " + Desk.repeat("n", 21) + " ID #IMPLIED>", -3, 12);
        bad("<!ELEMENT a (" + Desk.repeat("n", 21) + ")>", -3, 13);
        String ten = "<!ATTLIST a" + Desk.repeat(" _ ID #IMPLIED", 3);
        for (int i = 1; i < 10; i++) {
            ten += " n" + i + " ID #IMPLIED";
        }
        good(ten + " n9 CDATA #IMPLIED><!ATTLIST b x ID #IMPLIED>");
        bad(ten + " n10 CDATA #IMPLIED>", -3, ten.length() + 1);
        bad(ten + "><!ATTLIST a n10?", -3, ten.length() + 13);
        String value = "<!ATTLIST b x CDATA '" + Desk.repeat("v", 2000);
        good(value + "'>");
        bad(value + "v'>", -3, value.length());
        bad(value + "' x CDATA 'v'>", -3, value.length() + 11);
    }

    /** Attributes by default are NODES, but their bytes are those of the RULE. */
    private static void defaults() {
        String head = "<!DOCTYPE a [<!ATTLIST a x CDATA '" + Desk.repeat("v", 1000) + "' y CDATA #FIXED ''>]>";
        Desk desk = Desk.taken(head + "<a><a/><a y=''/></a>", 10);
        Desk.due("STRING by default", desk.node(2, 3), 1000);
        Desk.due("those that stand come first", desk.name(8), "y");
        String six = "<a b='' c='' d='' e='' f='' g=''";
        Desk.taken(head + six + "/>", 10);
        Desk.refused(head + six + " h=''/>", -3, head.length() + six.length() + 5);
        Desk.refused(head + six + " h='' ></a>", -3, head.length() + six.length() + 6);
        Desk.refused(head + six + " h='' !", -1, head.length() + six.length() + 6);
        Desk.taken(head + six + " x='' y=''/>", 10);
        String many = head + "<b>" + Desk.repeat("<b/>", 595);
        Desk.taken(many + "<a/></b>", 600);
        Desk.refused(many + "<b/><a/></b>", -3, many.length() + 6);
    }
}
