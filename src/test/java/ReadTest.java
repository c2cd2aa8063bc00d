/** Promise 3: read, by the forms that a DOCUMENT without a DOCTYPE may have. */
public final class ReadTest {
    public static void main(String[] args) {
        calls();
        documents();
        comments();
        tags();
        pieces();
        names();
        bounds();
        Desk.end();
    }

    private static void calls() {
        Desk desk = new Desk();
        Desk.due("n below 0", desk.read(-1), 0);
        Desk.due("n above THE TAPE", desk.read(1), 0);
        Desk.due("fed", desk.feed("<a/>"), 4);
        Desk.due("n above THE TAPE", desk.read(21), 0);
        Desk.due("nothing happened", desk.count(5), 20);
        Desk.due("no byte of them", desk.read(0), -1);
        Desk.due("place", desk.place(), 0);
        Desk.due("THE TAPE is empty", desk.count(5), 0);
        desk.feed("<a/>");
        Desk.due("the first bytes alone", desk.read(4), 2);
        Desk.due("THE TAPE is empty", desk.count(5), 0);
        Desk.due("ILL", desk.read("<b>"), -1);
        Desk.due("the DOCUMENT stays", desk.name(1), "a");
        Desk.due("ILL by NAMES", desk.read("<b></c>"), -2);
        Desk.due("the DOCUMENT stays", desk.name(1), "a");
        Desk.due("BOUND", desk.read("<" + Desk.repeat("b", 21) + "/>"), -3);
        Desk.due("the DOCUMENT stays", desk.name(1), "a");
        Desk.due("another one", desk.read("<b>x<c/></b>"), 4);
        Desk.due("it is the DOCUMENT", desk.name(1), "b");
    }

    private static void documents() {
        Desk.taken("<a/>", 2);
        Desk.taken(" \t\r\n<a/> \t\r\n", 2);
        Desk.taken("<!--x--> <!----><a/><!--y--> ", 2);
        Desk.taken("<a></a>", 2);
        Desk.taken("<a>x<b/>y</a>", 5);
        Desk.refused("", -1, 0);
        Desk.refused("  ", -1, 2);
        Desk.refused("x", -1, 0);
        Desk.refused("<a/>x", -1, 4);
        Desk.refused("<a/><b/>", -1, 4);
        Desk.refused("<a/><!-", -1, 4);
        Desk.refused("<!x><a/>", -1, 1);
        Desk.refused("<!doctype a []><a/>", -1, 1);
        Desk.refused("<a/>\u0080", -1, 4);
    }

    private static void comments() {
        Desk.taken("<a><!-- <b> & - - --></a>", 2);
        Desk.taken("<a>x<!---->y</a>", 4);
        Desk.refused("<a><!-- -- --></a>", -1, 10);
        Desk.refused("<a><!-- --- ></a>", -1, 10);
        Desk.refused("<a><!--->", -1, 9);
        Desk.refused("<a><!--\u0001--></a>", -1, 7);
        Desk.refused("<a><!--\u0001", -1, 7);
        Desk.refused("<a><!-x--></a>", -1, 4);
        Desk.refused("<!-- -", -1, 6);
        Desk.refused("<!-- --<a/>", -1, 7);
        Desk.refused("<!--~\u007f--><a/>", -1, 5);
    }

    private static void tags() {
        Desk.taken("<a\n/>", 2);
        Desk.taken("<a ></a\t>", 2);
        Desk.taken("<a x='1'\ny = \"2\" />", 4);
        Desk.refused("< a/>", -1, 1);
        Desk.refused("<1/>", -1, 1);
        Desk.refused("<a", -1, 2);
        Desk.refused("<a/ >", -1, 2);
        Desk.refused("<a x='1'y='2'/>", -1, 8);
        Desk.refused("<a x/>", -1, 4);
        Desk.refused("<a x=1/>", -1, 5);
        Desk.refused("<a x='1/>", -1, 6 + 3);
        Desk.refused("<a =''/>", -1, 3);
        Desk.refused("<a x='<'/>", -1, 6);
        Desk.refused("<a>", -1, 3);
        Desk.refused("<a>x", -1, 4);
        Desk.refused("<a></ a>", -1, 5);
        Desk.refused("<a></a", -1, 6);
        Desk.refused("<a></a x>", -1, 7);
        Desk.refused("<a><!b></a>", -1, 4);
    }

    private static void pieces() {
        Desk desk = Desk.taken("<a x='&lt;&gt;&amp;&quot;&apos;\"' y=\"'&#65;&#000066;&#9;\t\n\r\">&#10;]]>&lt;\t</a>", 5);
        Desk.due("named REFS", desk.string(2), "<>&\"'\"");
        Desk.due("numbered REFS and S in a VALUE", desk.string(3), "'AB\t   ");
        Desk.due("a TEXT keeps its S", desk.string(4), "\n]]><\t");
        Desk.due("the last CHAR", Desk.taken("<a>~&#126;</a>", 3).string(2), "~~");
        Desk.refused("<a>b&</a>", -1, 4);
        Desk.refused("<a>&lt</a>", -1, 3);
        Desk.refused("<a>&LT;</a>", -1, 3);
        Desk.refused("<a>&#;</a>", -1, 3);
        Desk.refused("<a>&#x41;</a>", -1, 3);
        Desk.refused("<a>&#0000065;</a>", -1, 3);
        Desk.refused("<a>&#65</a>", -1, 3);
        Desk.refused("<a>&#8;</a>", -1, 3);
        Desk.refused("<a>&#127;</a>", -1, 3);
        Desk.refused("<a>&#999999;</a>", -1, 3);
        Desk.refused("<a>\u007f</a>", -1, 3);
        Desk.refused("<a>\u00ff</a>", -1, 3);
        Desk.refused("<a x='b&c;'/>", -1, 7);
        Desk.refused("<a x='\u0000'/>", -1, 6);
    }

    private static void names() {
        Desk.taken("<_-.9Zz/>", 2);
        Desk.refused("<a></b>", -2, 5);
        Desk.refused("<a></aa>", -2, 5);
        Desk.refused("<a><b></a></b>", -2, 8);
        Desk.refused("<a x='' y='' x=''/>", -2, 13);
        Desk.refused("<a x='' x/>", -2, 8);
        Desk.taken("<a x='' X=''><b x=''/></a>", 6);
        String name = Desk.repeat("n", 20);
        Desk.taken("<" + name + " " + name + "=''></" + name + ">", 3);
        Desk.refused("<n" + name + "/>", -3, 1);
        Desk.refused("<a n" + name + "=''/>", -3, 3);
        Desk.refused("<a></n" + name + ">", -3, 5);
    }

    private static void bounds() {
        Desk.taken("<a>" + Desk.repeat("<b/>", 598) + "</a>", 600);
        Desk.refused("<a>" + Desk.repeat("<b/>", 599) + "</a>", -3, 3 + 4 * 598 + 1);
        Desk.refused("<a>" + Desk.repeat("<b/>", 598) + "x</a>", -3, 3 + 4 * 598);
        Desk.refused("<a>" + Desk.repeat("<b/>", 598) + "&x</a>", -1, 3 + 4 * 598);
        Desk.refused("<a>" + Desk.repeat("<b/>", 597) + "<b c=''/></a>", -3, 3 + 4 * 597 + 3);
        Desk.taken(Desk.repeat("<a>", 30) + Desk.repeat("</a>", 30), 31);
        Desk.refused(Desk.repeat("<a>", 31) + Desk.repeat("</a>", 31), -3, 91);
        String eight = "<a b='' c='' d='' e='' f='' g='' h='' i=''";
        Desk.taken(eight + "/>", 10);
        Desk.refused(eight + " j=''/>", -3, eight.length() + 1);
        Desk.refused(eight + " b=''/>", -2, eight.length() + 1);
        Desk.taken("<a b='" + Desk.repeat("x", 1500) + "'>" + Desk.repeat("&#65;", 500) + "</a>", 4);
        Desk.refused("<a b='" + Desk.repeat("x", 1500) + "'>" + Desk.repeat("&#65;", 501) + "</a>", -3, 1508 + 2500);
        Desk.refused("<a>" + Desk.repeat("x", 2000) + "<b c='y'/></a>", -3, 2003 + 6);
        Desk.refused("<a>" + Desk.repeat("x", 2000) + "\u0001</a>", -1, 2003);
    }
}
